/-! fault, says, keep, kept -/
def scrM (c k : Nat) : Prop := c < 69 ∨ (c = 69 ∧ ((10 ≤ k ∧ k ≤ 16) ∨ k = 38)) ∨ (78 ≤ c ∧ c ≤ 80) ∨ (84 ≤ c ∧ c ≤ 97)
theorem InvM.frameS {A : AS} {σ σ' : Sg} (h : InvM A σ) (hf : ∀ c k, ¬ scrM c k → σ' c k = σ c k) : InvM A σ' := by
  obtain ⟨h1, h2, h3, h4, h5, h6⟩ := h
  have g : ∀ c k, (c = 69 ∧ (k = 0 ∨ k = 8 ∨ k = 20 ∨ k = 39)) ∨ (70 ≤ c ∧ c ≤ 77) ∨ (81 ≤ c ∧ c ≤ 83) ∨ c = 98 → σ' c k = σ c k := fun c k z => hf c k (by unfold scrM; omega)
  refine ⟨h1.frame fun c k hc => g c k (by omega), fun t a c => by rw [g 73 t (by omega), g 75 t (by omega)]; exact h2 t a c, fun w hw => by rw [g 76 w (by omega)]; exact h3 w hw, h4.frame fun c k hc => g c k (by omega), ⟨by rw [g 69 20 (by omega)]; exact h5.1, fun k hk => ?_⟩, ⟨by rw [g 69 39 (by omega)]; exact h6.1, fun i hi => by rw [g 98 i (by omega)]; exact h6.2 i hi⟩⟩
  rw [g 81 k (by omega)]
  refine ⟨(h5.2 k hk).1, fun i hi => ?_⟩
  rw [g 82 _ (by omega), g 83 _ (by omega)]
  exact (h5.2 k hk).2 i hi
theorem prs_len {b : Nat → Int} {n : Nat} : ∀ (f p due nd : Nat) (cs L : List Nat), cs.length ≤ 24 → prs b n f p due nd cs = .inr L → L.length ≤ 24
  | 0, p, due, nd, cs, L, _, h => by unfold prs at h; cases h
  | f + 1, p, due, nd, cs, L, hl, h => by
    unfold prs at h
    split at h
    · split at h
      · injection h with h
        rw [← h, List.length_reverse]; exact hl
      · cases h
    · split at h
      · split at h
        · refine prs_len f _ _ _ _ L ?_ h
          cases cs with
          | nil => exact Nat.zero_le _
          | cons x r => exact hl
        · cases h
      · split at h
        · cases h
        · split at h
          · cases h
          · rename_i hne
            refine prs_len f _ _ _ _ L ?_ h
            show cs.length + 1 ≤ 24
            omega
theorem prsT_len {b : Nat → Int} {n : Nat} {L : List Nat} (h : prsT b n = .inr L) : L.length ≤ 24 := prs_len (n + 1) 0 1 0 [] L (Nat.zero_le _) h
def tellS (S : Sc) (P : Nat → Int) (L : List Nat) (w : Int) : Int := if w = 0 then (meanL S L : Int) else if w = 1 then costL P L else (L.length : Int)
theorem s_told {X : Cx} {σ : Sg} {Q : Int → Sg → Prop} {S : Sc} {P : Nat → Int} {c0 : Nat} {L : List Nat} {w : Int} (h : atC S σ) (hS : okS S) (hP : ∀ w, w < 15 → σ 11 w = P w) (hs : isSay c0) (hL : hasS c0 L σ) (hw : wfL L) (hok : okC L) (hi : inI w) (k : ∀ σ', (∀ c j, c ≠ c0 + 2 → σ' c j = σ c j) → Q (tellS S P L w) σ') : KX11_told X c0 w σ Q := by
  refine eX11_told (rX11_told_0 hs fun _ => ⟨hi, fun z => s_meaning h hS.2.1 hS.2.2.2.1 hs hL hw hok fun σ' hf _ => ?_, fun z => s_cost hP hs hL hok fun _ => ?_, fun z => ?_⟩)
  · have := k σ' hf; unfold tellS at this; rw [if_pos z] at this; exact this
  · have := k σ (fun _ _ _ => rfl); unfold tellS at this; rw [if_neg (by omega), if_pos z] at this; exact this
  · have := k σ (fun _ _ _ => rfl); unfold tellS at this; rw [if_neg z.1, if_neg z.2] at this; rw [hL.1]; exact this
def opFault (A : AS) : Int × AS := (match prsT A.2.2.1.1 A.2.2.1.2 with | .inl x => (x : Int) | .inr _ => -1, A)
def opSays (A : AS) (w : Int) : Int × AS := (if 0 ≤ w ∧ w < 3 then (match prsT A.2.2.1.1 A.2.2.1.2 with | .inl _ => -4 | .inr L => tellS A.1 A.2.1 L w) else -3, A)
def opKeep (A : AS) : Int × AS := match prsT A.2.2.1.1 A.2.2.1.2 with
  | .inl _ => (-4, A)
  | .inr L => if A.2.2.2.1.length < 8 then ((A.2.2.2.1.length : Int), (A.1, A.2.1, (A.2.2.1.1, 0), A.2.2.2.1 ++ [L], A.2.2.2.2)) else (-5, A)
def opKept (A : AS) (k w : Int) : Int × AS := (if 0 ≤ k ∧ k < A.2.2.2.1.length then (if 0 ≤ w ∧ w < 3 then tellS A.1 A.2.1 (A.2.2.2.1.getD k.toNat []) w else -3) else -2, A)
theorem opKeep_ok {A : AS} (h : okA A) : okA (opKeep A).2 := by
  unfold opKeep
  split
  · exact h
  · rename_i L e
    split
    · rename_i h8
      obtain ⟨a, b, c, d⟩ := h
      refine ⟨a, b, ⟨by rw [List.length_append]; exact h8, fun M hM => ?_⟩, d⟩
      rcases List.mem_append.mp hM with hM | hM
      · exact c.2 M hM
      · rw [List.mem_singleton.mp hM]
        have := prsT_ok e
        exact ⟨this.2, this.1, prsT_len e⟩
    · exact h
theorem frT_scr {σ σ' : Sg} (h : frT σ σ') : ∀ c k, ¬ scr c k → σ' c k = σ c k := fun c k z => h c k (by unfold scr at z; omega) (by unfold scr at z; omega) (by unfold scr at z; omega)
theorem c_fault {CK : CKt} {X : Cx} {A : AS} {m : Nat} {σ : Sg} (hCK : okCK CK) (h : InvC CK A m σ) (hA : okA A) : doesC CK m (opFault A) σ (KX11_fault X σ) := by
  intro Q K
  unfold opFault at K
  refine eX11_fault (rX11_fault_0 fun _ => s_read h.2.2.2.2.1 (fun x σ' hf e _ => ?_) (fun L σ' hf hL e _ => ?_))
  · rw [e] at K
    exact K σ' (fun c k z => hf c k (by omega) (by omega) (by omega)) (h.frame hCK hA.2.2.1.1 (frT_scr hf)).more
  · rw [e] at K
    exact K σ' (fun c k z => hf c k (by omega) (by omega) (by omega)) (h.frame hCK hA.2.2.1.1 (frT_scr hf)).more
theorem c_says {CK : CKt} {X : Cx} {A : AS} {m : Nat} {σ : Sg} {w : Int} (hCK : okCK CK) (h : InvC CK A m σ) (hA : okA A) (hi : inI w) : doesC CK m (opSays A w) σ (KX11_says X w σ) := by
  intro Q K
  unfold opSays at K
  refine eX11_says (rX11_says_0 fun _ => s_isWithin hi (by decide) fun _ => ?_)
  by_cases q : 0 ≤ w ∧ w < 3
  · rw [if_pos q] at K ⊢
    refine ⟨by decide, fun _ => s_read h.2.2.2.2.1 (fun x σ' hf e _ => ?_) (fun L σ' hf hL e _ => ?_), fun z => absurd z (by decide)⟩
    · rw [e] at K
      have := prsT_in e
      have := h.2.2.2.2.1.2.1
      exact ⟨by omega, fun _ => K σ' (fun c k z => hf c k (by omega) (by omega) (by omega)) (h.frame hCK hA.2.2.1.1 (frT_scr hf)).more, fun z => by omega⟩
    · rw [e] at K
      have h' := h.frame hCK hA.2.2.1.1 (frT_scr hf)
      refine ⟨by decide, fun z => absurd rfl z, fun _ => s_told h'.1 hA.1 h'.2.2.2.1 isSay_14 hL (prsT_ok e).1 (prsT_ok e).2 hi fun σ2 hf2 _ => ?_⟩
      exact K σ2 (fun c k z => (hf2 c k (by omega)).trans (hf c k (by omega) (by omega) (by omega))) (h'.frame hCK hA.2.2.1.1 fun c k z => hf2 c k (by unfold scr at z; omega)).more
  · rw [if_neg q] at K ⊢
    exact ⟨by decide, fun z => absurd rfl z, fun _ => K σ (fun _ _ _ => rfl) h.more⟩
theorem c_kept {CK : CKt} {X : Cx} {A : AS} {m : Nat} {σ : Sg} {k w : Int} (hCK : okCK CK) (h : InvC CK A m σ) (hA : okA A) (hk : inI k) (hi : inI w) : doesC CK m (opKept A k w) σ (KX11_kept X k w σ) := by
  intro Q K
  unfold opKept at K
  have i6 := h.2.2.2.2.2.1
  have hl := hA.2.2.1.1
  refine eX11_kept (rX11_kept_0 fun _ => s_isWithin hk (by rw [i6.1]; omega) fun _ => ?_)
  rw [i6.1]
  by_cases q : 0 ≤ k ∧ k < (A.2.2.2.1.length : Int)
  · rw [if_pos q] at K ⊢
    refine ⟨by decide, fun _ => s_isWithin hi (by decide) fun _ => ?_, fun z => absurd z (by decide)⟩
    by_cases q3 : 0 ≤ w ∧ w < 3
    · rw [if_pos q3] at K ⊢
      obtain ⟨j, rfl⟩ : ∃ j : Nat, k = j := ⟨k.toNat, by omega⟩
      rw [show ((j : Int).toNat) = j from rfl] at *
      have hj : j < A.2.2.2.1.length := by omega
      have hm : A.2.2.2.1.getD j [] ∈ A.2.2.2.1 := by
        rw [List.getD_eq_getElem?_getD, List.getElem?_eq_getElem hj]
        exact List.getElem_mem _
      have hc := hA.2.2.1.2 _ hm
      refine ⟨by decide, fun z => absurd z (by decide), fun _ => ⟨by omega, s_told h.1 hA.1 h.2.2.2.1 (isSay_k j (by omega)) (i6.2 j hj) hc.2.1 hc.1 hi fun σ2 hf2 _ => ?_⟩⟩
      exact K σ2 (fun c k z => hf2 c k (by omega)) (h.frame hCK hl fun c k z => hf2 c k (by unfold scr at z; omega)).more
    · rw [if_neg q3] at K ⊢
      exact ⟨by decide, fun _ => K σ (fun _ _ _ => rfl) h.more, fun z => absurd rfl z⟩
  · rw [if_neg q] at K ⊢
    exact ⟨by decide, fun z => absurd rfl z, fun _ => K σ (fun _ _ _ => rfl) h.more⟩
theorem getD_appL {K : List (List Nat)} {L : List Nat} {i : Nat} (h : i < K.length) : (K ++ [L]).getD i [] = K.getD i [] := by
  rw [List.getD_eq_getElem?_getD, List.getD_eq_getElem?_getD, List.getElem?_append_left h]
theorem getD_appL1 {K : List (List Nat)} {L : List Nat} : (K ++ [L]).getD K.length [] = L := by
  rw [List.getD_eq_getElem?_getD, List.getElem?_append_right (Nat.le_refl _)]; simp
theorem c_keep {CK : CKt} {X : Cx} {A : AS} {m : Nat} {σ : Sg} (hCK : okCK CK) (h : InvC CK A m σ) (hA : okA A) : doesC CK m (opKeep A) σ (KX11_keep X σ) := by
  intro Q K
  unfold opKeep at K
  refine eX11_keep (rX11_keep_0 fun _ => s_read h.2.2.2.2.1 (fun x σ' hf e _ => ?_) (fun L σ' hf hL e _ => ?_))
  · rw [e] at K
    have := prsT_in e
    have := h.2.2.2.2.1.2.1
    exact ⟨by omega, fun z => by omega, fun _ => K σ' (fun c k z => hf c k (by omega) (by omega) (by omega)) (h.frame hCK hA.2.2.1.1 (frT_scr hf)).more⟩
  · rw [e] at K
    have h' := h.frame hCK hA.2.2.1.1 (frT_scr hf)
    obtain ⟨i1, i2, i3, i4, i5, i6, i7, i8, i9⟩ := id h'
    obtain ⟨c1, c2, c3, c4⟩ := i9
    rw [i6.1]
    refine ⟨by decide, fun _ => ⟨fun z => ⟨by omega, ?_⟩, fun z => ?_⟩, fun z => absurd rfl z⟩
    · rw [show (((A.2.2.2.1.length : Nat) : Int).toNat) = A.2.2.2.1.length from rfl]
      have hl8 : A.2.2.2.1.length < 8 := by omega
      refine s_copy (isSay_k _ hl8) (by omega) hL (prsT_ok e).2 fun σ2 hf2 hS _ => eX7_clear (rX7_clear_0 fun _ _ => ?_)
      have K := K
      simp only [if_pos hl8] at K
      generalize hn : A.2.2.2.1.length = n at *
      have g : ∀ c k, ¬ (c = 12 ∧ k = 2) → ¬ (c = 0 ∧ k = 10) → c ≠ 18 + 3 * n → c ≠ 18 + 3 * n + 1 → up2 (up2 σ2 12 2 0) 0 10 ((n : Int) + 1) c k = σ' c k := fun c k z1 z2 z3 z4 => by rw [up2_a _ _ z2, up2_a _ _ z1]; exact hf2 c k z3 z4
      have e10 : up2 σ2 12 2 0 0 10 = (n : Int) := by rw [up2_a _ _ (by omega), hf2 0 10 (by omega) (by omega), i6.1, hn]
      rw [e10]
      refine ⟨by omega, K _ (fun c k z => (g c k (by omega) (by omega) (by omega) (by omega)).trans (hf c k (by omega) (by omega) (by omega))) ⟨i1.frame' fun c k z => g c k (by omega) (by omega) (by omega) (by omega), fun t a b => ?_, ?_, fun u hu => ?_, ⟨by rw [up2_a _ _ (by omega), up2_s]; rfl, Nat.zero_le _, fun i hi => by cases hi⟩, ⟨by rw [up2_s, List.length_append, hn]; rfl, fun k hk => ?_⟩, ⟨?_, fun i hi => ?_⟩, ?_, ?_⟩⟩
      · rw [g 6 t (by omega) (by omega) (by omega) (by omega), g 9 t (by omega) (by omega) (by omega) (by omega), g 10 t (by omega) (by omega) (by omega) (by omega)]; exact i2 t a b
      · rw [g 1 2 (by omega) (by omega) (by omega) (by omega)]; exact i3
      · rw [g 11 u (by omega) (by omega) (by omega) (by omega)]; exact i4 u hu
      · rw [List.length_append, hn] at hk
        have hk' : k < n + 1 := hk
        rcases Nat.lt_succ_iff_lt_or_eq.mp hk' with y | y
        · rw [getD_appL (by omega)]
          exact (i6.2 k (by omega)).frame fun c j hc => g c j (by omega) (by omega) (by omega) (by omega)
        · rw [y, ← hn, getD_appL1, hn]
          exact hS.frame fun c j hc => by rw [up2_a _ _ (by omega), up2_a _ _ (by omega)]
      · rw [g 67 1 (by omega) (by omega) (by omega) (by omega)]; exact i7.1
      · rw [g 68 i (by omega) (by omega) (by omega) (by omega)]; exact i7.2 i hi
      · rw [g 0 11 (by omega) (by omega) (by omega) (by omega)]; omega
      · unfold cacheOK
        rw [g 42 8 (by omega) (by omega) (by omega) (by omega), g 49 2 (by omega) (by omega) (by omega) (by omega), g 0 11 (by omega) (by omega) (by omega) (by omega)]
        have hh := hCK A.1 A.2.1 σ' _ fun c k a d => g c k (by omega) (by omega) (by omega) (by omega)
        exact ⟨c1, c2, fun z => hh.1 (c3 z), fun z => hh.2 (c4 z)⟩
    · have K := K
      simp only [if_neg (show ¬ A.2.2.2.1.length < 8 by omega)] at K
      exact K σ' (fun c k z => hf c k (by omega) (by omega) (by omega)) h'.more
