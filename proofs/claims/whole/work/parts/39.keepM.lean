/-! the reference: fault, says, keep, kept -/
theorem frR_scr {σ σ' : Sg} (h : frR σ σ') : ∀ c k, ¬ scrM c k → σ' c k = σ c k := fun c k z => h c k (by unfold scrM at z; omega) (by unfold scrM at z; omega) (by unfold scrM at z; omega)
theorem m_fault {X : Cx} {A : AS} {σ : Sg} (h : InvM A σ) : doesM (opFault A) σ (KX12_fault X σ) := by
  intro Q K
  unfold opFault at K
  refine eX12_fault (rX12_fault_0 fun _ => m_isRead h.2.2.2.1 (fun x σ' hf e hx _ => ?_) (fun L σ' hf hL e _ => ?_))
  · rw [e] at K
    refine ⟨by decide, fun _ => ?_, fun z => absurd rfl z⟩
    rw [hx]
    exact K σ' (fun c k z => hf c k (by omega) (by omega) (by omega)) (h.frameS (frR_scr hf))
  · rw [e] at K
    exact ⟨by decide, fun z => absurd z (by decide), fun _ => K σ' (fun c k z => hf c k (by omega) (by omega) (by omega)) (h.frameS (frR_scr hf))⟩
theorem m_tell {X : Cx} {σ : Sg} {Q : Int → Sg → Prop} {A : AS} {L : List Nat} {w : Int} (h : InvM A σ) (hA : okA A) (hL : hasM L σ) (hw : wfL L) (hok : okC L) (hi : 0 ≤ w ∧ w < 3) (k : ∀ σ', (∀ c k, c ≠ 80 → σ' c k = σ c k) → Q (tellS A.1 A.2.1 L w) σ') : (inI w) ∧ ((¬ w = 0 → (inI w) ∧ ((¬ w = 1 → Q (σ 69 16) σ) ∧ (w = 1 → KX12_costTold X σ (fun r15 σ16 => Rng σ16 → Q r15 σ16)))) ∧ (w = 0 → KX12_meaning X σ (fun r18 σ19 => Rng σ19 → Q r18 σ19))) := by
  refine ⟨by omega, fun z => ⟨by omega, fun z2 => ?_, fun z1 => m_cost h.2.2.1 hL hok fun _ => ?_⟩, fun z => m_meaning h.1 hA.1.2.1 hA.1.2.2.1 hA.1.2.2.2.1 hL hw hok fun σ' hf _ => ?_⟩
  · have := k σ (fun _ _ _ => rfl)
    unfold tellS at this
    rw [if_neg z, if_neg z2] at this
    rw [hL.1]; exact this
  · have := k σ (fun _ _ _ => rfl)
    unfold tellS at this
    rw [if_neg z, if_pos z1] at this
    exact this
  · have := k σ' hf
    unfold tellS at this
    rw [if_pos z] at this
    exact this
theorem m_says {X : Cx} {A : AS} {σ : Sg} {w : Int} (h : InvM A σ) (hA : okA A) (hi : inI w) : doesM (opSays A w) σ (KX12_says X w σ) := by
  intro Q K
  unfold opSays at K
  refine eX12_says (rX12_says_0 fun _ => m_in hi (by decide) (by decide) fun _ => ?_)
  by_cases q : 0 ≤ w ∧ w < 3
  · rw [if_pos q] at K
    rw [if_pos (show 0 ≤ w ∧ w ≤ 2 by omega)]
    refine ⟨by decide, fun _ => m_isRead h.2.2.2.1 (fun x σ' hf e hx _ => ?_) (fun L σ' hf hL e _ => ?_), fun z => absurd z (by decide)⟩
    · rw [e] at K
      exact ⟨by decide, fun z => absurd rfl z, fun _ => K σ' (fun c k z => hf c k (by omega) (by omega) (by omega)) (h.frameS (frR_scr hf))⟩
    · rw [e] at K
      have h' := h.frameS (frR_scr hf)
      refine ⟨by decide, fun _ => m_tell h' hA hL (prsT_ok e).1 (prsT_ok e).2 q fun σ2 hf2 => ?_, fun z => absurd z (by decide)⟩
      exact K σ2 (fun c k z => (hf2 c k (by omega)).trans (hf c k (by omega) (by omega) (by omega))) (h'.frameS fun c k z => hf2 c k (by unfold scrM at z; omega))
  · rw [if_neg q] at K
    rw [if_neg (show ¬ (0 ≤ w ∧ w ≤ 2) by omega)]
    exact ⟨by decide, fun z => absurd rfl z, fun _ => K σ (fun _ _ _ => rfl) h⟩
theorem m_recall {X : Cx} {σ : Sg} {Q : Int → Sg → Prop} {K : List (List Nat)} {j : Nat} (h : keptM K σ) (hj : j < K.length) (h8 : K.length ≤ 8) (h24 : (K.getD j []).length ≤ 24) (k : ∀ σ', frR σ σ' → hasM (K.getD j []) σ' → Q 0 σ') : KX12_recall X j σ Q := by
  obtain ⟨h1, h2⟩ := h
  obtain ⟨g1, g2⟩ := h2 j hj
  refine eX12_recall (rX12_recall_0 fun _ => ⟨by omega, ?_⟩)
  rw [show ((j : Int).toNat) = j from rfl, g1]
  generalize K.getD j [] = L at *
  have loop : ∀ d i : Nat, i + d = L.length → ∀ σ1 : Sg, (∀ c k, ¬ (c = 69 ∧ k = 16) → c ≠ 78 → c ≠ 79 → σ1 c k = σ c k) → σ1 69 16 = (L.length : Int) → (∀ t, t < i → σ1 78 t = ((L.getD t 0 / 8 : Nat) : Int) ∧ σ1 79 t = ((L.getD t 0 % 8 : Nat) : Int)) → GX12_recall_12 X j i σ1 Q := by
    intro d
    induction d with
    | zero =>
      intro i hi σ1 hf e16 ht
      have : i = L.length := by omega
      subst this
      exact rX12_recall_12 fun _ => ⟨by omega, fun _ => k σ1 (fun c k a b d => hf c k (by omega) b d) ⟨e16, h24, ht⟩, fun z => by omega⟩
    | succ d ih =>
      intro i hi σ1 hf e16 ht
      refine rX12_recall_12 fun _ => ⟨by omega, fun z => by omega, fun _ => ⟨by omega, by omega, by omega, by omega, ?_⟩⟩
      have e := g2 i (by omega)
      rw [show ((i : Int).toNat) = i from rfl, show ((24 * (j : Int) + (i : Int)).toNat) = 24 * j + i by omega, hf 82 _ (by omega) (by omega) (by omega), hf 83 _ (by omega) (by omega) (by omega), e.1, e.2]
      refine ih (i + 1) (by omega) _ (fun c k a b d => by rw [up2_nc _ _ d, up2_nc _ _ b]; exact hf c k a b d) (by rw [up2_nc _ _ (by decide), up2_nc _ _ (by decide)]; exact e16) fun t ht' => ?_
      by_cases q : t = i
      · subst q
        rw [up2_nc _ _ (show (78 : Nat) ≠ 79 by decide), up2_s, up2_s]
        exact ⟨rfl, rfl⟩
      · rw [up2_nc _ _ (show (78 : Nat) ≠ 79 by decide), up2_nk _ _ q, up2_nk _ _ q, up2_nc _ _ (show (79 : Nat) ≠ 78 by decide)]
        exact ht t (by omega)
  exact loop L.length 0 (by omega) _ (fun c k a b d => up2_a _ _ a) (up2_s _ _ _ _) fun t ht => by omega
theorem getD_memL {K : List (List Nat)} {j : Nat} (hj : j < K.length) : K.getD j [] ∈ K := by
  rw [List.getD_eq_getElem?_getD, List.getElem?_eq_getElem hj]
  exact List.getElem_mem _
theorem m_kept {X : Cx} {A : AS} {σ : Sg} {k w : Int} (h : InvM A σ) (hA : okA A) (hk : inI k) (hi : inI w) : doesM (opKept A k w) σ (KX12_kept X k w σ) := by
  intro Q K
  unfold opKept at K
  have i6 := h.2.2.2.2.1
  have hl := hA.2.2.1.1
  refine eX12_kept (rX12_kept_0 fun _ => m_in hk (by decide) (by rw [i6.1]; omega) fun _ => ?_)
  rw [i6.1]
  by_cases q : 0 ≤ k ∧ k < (A.2.2.2.1.length : Int)
  · rw [if_pos q] at K
    rw [if_pos (by omega)]
    refine ⟨by decide, fun _ => m_in hi (by decide) (by decide) fun _ => ?_, fun z => absurd z (by decide)⟩
    by_cases q3 : 0 ≤ w ∧ w < 3
    · rw [if_pos q3] at K
      rw [if_pos (by omega)]
      obtain ⟨j, rfl⟩ : ∃ j : Nat, k = j := ⟨k.toNat, by omega⟩
      rw [show ((j : Int).toNat) = j from rfl] at *
      have hj : j < A.2.2.2.1.length := by omega
      have hc := hA.2.2.1.2 _ (getD_memL hj)
      refine ⟨by decide, fun _ => m_recall i6 hj hl hc.2.2 fun σ' hf hL _ => ?_, fun z => absurd z (by decide)⟩
      have h' := h.frameS (frR_scr hf)
      refine m_tell h' hA hL hc.2.1 hc.1 q3 fun σ2 hf2 => ?_
      exact K σ2 (fun c k z => (hf2 c k (by omega)).trans (hf c k (by omega) (by omega) (by omega))) (h'.frameS fun c k z => hf2 c k (by unfold scrM at z; omega))
    · rw [if_neg q3] at K
      rw [if_neg (by omega)]
      exact ⟨by decide, fun z => absurd rfl z, fun _ => K σ (fun _ _ _ => rfl) h⟩
  · rw [if_neg q] at K
    rw [if_neg (by omega)]
    exact ⟨by decide, fun z => absurd rfl z, fun _ => K σ (fun _ _ _ => rfl) h⟩
theorem m_keep {X : Cx} {A : AS} {σ : Sg} (h : InvM A σ) (hA : okA A) : doesM (opKeep A) σ (KX12_keep X σ) := by
  intro Q K
  unfold opKeep at K
  refine eX12_keep (rX12_keep_0 fun _ => m_isRead h.2.2.2.1 (fun x σ' hf e hx _ => ?_) (fun L σ' hf hL e _ => ?_))
  · rw [e] at K
    exact ⟨by decide, fun z => absurd rfl z, fun _ => K σ' (fun c k z => hf c k (by omega) (by omega) (by omega)) (h.frameS (frR_scr hf))⟩
  · rw [e] at K
    have h' := h.frameS (frR_scr hf)
    obtain ⟨i1, i2, i3, i4, i5, i6⟩ := id h'
    have hl8 := hA.2.2.1.1
    refine ⟨by decide, fun _ => ?_, fun z => absurd z (by decide)⟩
    rw [i5.1, hL.1]
    refine ⟨fun z => ⟨by omega, ?_⟩, fun z => ?_⟩
    · have K := K
      have hlt : A.2.2.2.1.length < 8 := by omega
      simp only [if_pos hlt] at K
      rw [show (((A.2.2.2.1.length : Nat) : Int).toNat) = A.2.2.2.1.length from rfl]
      generalize hn : A.2.2.2.1.length = n at *
      have hL24 := hL.2.1
      have loop : ∀ d i : Nat, i + d = L.length → ∀ σ1 : Sg, (∀ c k, ¬ (c = 81 ∧ k = n) → ¬ ((c = 82 ∨ c = 83) ∧ 24 * n ≤ k) → σ1 c k = σ' c k) → σ1 81 n = (L.length : Int) → (∀ t, t < i → σ1 82 (24 * n + t) = ((L.getD t 0 / 8 : Nat) : Int) ∧ σ1 83 (24 * n + t) = ((L.getD t 0 % 8 : Nat) : Int)) → GX12_keep_37 X i σ1 Q := by
        intro d
        induction d with
        | zero =>
          intro i hi σ1 hf1 e81 ht
          have hi : i = L.length := by omega
          subst hi
          have e16 : σ1 69 16 = (L.length : Int) := by rw [hf1 69 16 (by omega) (by omega)]; exact hL.1
          have e20 : σ1 69 20 = (n : Int) := by rw [hf1 69 20 (by omega) (by omega), i5.1, hn]
          refine rX12_keep_37 fun _ => ⟨by omega, fun _ => ?_, fun z => by omega⟩
          rw [e20, show (n : Int) + 1 - 1 = n by omega]
          have g : ∀ c k, ¬ (c = 69 ∧ (k = 8 ∨ k = 20)) → ¬ (c = 81 ∧ k = n) → ¬ ((c = 82 ∨ c = 83) ∧ 24 * n ≤ k) → up2 (up2 σ1 69 20 ((n : Int) + 1)) 69 8 0 c k = σ' c k := fun c k a b d => by rw [up2_a _ _ (by omega), up2_a _ _ (by omega)]; exact hf1 c k b d
          refine ⟨by omega, K _ (fun c k z => (g c k (by omega) (by omega) (by omega)).trans (hf c k (by omega) (by omega) (by omega))) ⟨i1.frame fun c k z => g c k (by omega) (by omega) (by omega), fun t a b => ?_, fun u hu => ?_, ⟨up2_s _ _ _ _, Nat.zero_le _, fun i hi => by cases hi⟩, ⟨by rw [up2_a _ _ (by omega), up2_s, List.length_append, hn]; rfl, fun k hk => ?_⟩, ⟨?_, fun i hi => ?_⟩⟩⟩
          · rw [g 73 t (by omega) (by omega) (by omega), g 75 t (by omega) (by omega) (by omega)]; exact i2 t a b
          · rw [g 76 u (by omega) (by omega) (by omega)]; exact i3 u hu
          · rw [List.length_append, hn] at hk
            have hk' : k < n + 1 := hk
            rcases Nat.lt_succ_iff_lt_or_eq.mp hk' with y | y
            · rw [getD_appL (by omega)]
              have hM := hA.2.2.1.2 _ (getD_memL (K := A.2.2.2.1) (j := k) (by omega))
              have p5 := i5.2 k (by omega)
              rw [g 81 k (by omega) (by omega) (by omega)]
              refine ⟨p5.1, fun i hi => ?_⟩
              rw [g 82 _ (by omega) (by omega) (by omega), g 83 _ (by omega) (by omega) (by omega)]
              exact p5.2 i hi
            · rw [y, ← hn, getD_appL1, hn, up2_a _ _ (by omega), up2_a _ _ (by omega)]
              refine ⟨e81, fun i hi => ?_⟩
              rw [up2_a _ _ (by omega), up2_a _ _ (by omega), up2_a _ _ (by omega), up2_a _ _ (by omega)]
              exact ht i hi
          · rw [g 69 39 (by omega) (by omega) (by omega)]; exact i6.1
          · rw [g 98 i (by omega) (by omega) (by omega)]; exact i6.2 i hi
        | succ d ih =>
          intro i hi σ1 hf1 e81 ht
          have e16 : σ1 69 16 = (L.length : Int) := by rw [hf1 69 16 (by omega) (by omega)]; exact hL.1
          have e20 : σ1 69 20 = (n : Int) := by rw [hf1 69 20 (by omega) (by omega), i5.1, hn]
          refine rX12_keep_37 fun _ => ⟨by omega, fun z => by omega, fun _ => ?_⟩
          have e := hL.2.2 i (by omega)
          rw [e20, show ((i : Int).toNat) = i from rfl, show ((24 * (n : Int) + (i : Int)).toNat) = 24 * n + i by omega, hf1 78 _ (by omega) (by omega), hf1 79 _ (by omega) (by omega), e.1, e.2]
          refine ⟨by omega, by omega, by omega, by omega, ih (i + 1) (by omega) _ (fun c k a b => by rw [up2_a _ _ (by omega), up2_a _ _ (by omega)]; exact hf1 c k a b) (by rw [up2_nc _ _ (by decide), up2_nc _ _ (by decide)]; exact e81) fun t ht' => ?_⟩
          by_cases q : t = i
          · subst q
            rw [up2_nc _ _ (show (82 : Nat) ≠ 83 by decide), up2_s, up2_s]
            exact ⟨rfl, rfl⟩
          · rw [up2_nc _ _ (show (82 : Nat) ≠ 83 by decide), up2_nk _ _ (by omega), up2_nk _ _ (by omega), up2_nc _ _ (show (83 : Nat) ≠ 82 by decide)]
            exact ht t (by omega)
      exact loop L.length 0 (by omega) _ (fun c k a b => up2_a _ _ a) (up2_s _ _ _ _) fun t ht => by omega
    · have K := K
      simp only [if_neg (show ¬ A.2.2.2.1.length < 8 by omega)] at K
      exact K σ' (fun c k z => hf c k (by omega) (by omega) (by omega)) h'
