theorem m_hears {X : Cx} {A : AS} {σ : Sg} {k d : Int} (h : InvM A σ) (hA : okA A) (hk : inI k) (hd : inI d) : doesM (opHears A k d) σ (KX12_hears X k d σ) := by
  intro Q K
  unfold opHears at K
  have i6 := h.2.2.2.2.1
  have hl := hA.2.2.1.1
  refine eX12_hears (rX12_hears_0 fun _ => m_in hk (by decide) (by rw [i6.1]; omega) fun _ => ?_)
  rw [i6.1]
  by_cases q : 0 ≤ k ∧ k < (A.2.2.2.1.length : Int)
  · rw [if_pos q] at K
    rw [if_pos (by omega)]
    refine ⟨by decide, fun _ => m_in hd (by decide) (by decide) fun _ => ?_, fun z => absurd z (by decide)⟩
    by_cases q3 : 0 ≤ d ∧ d < 21
    · rw [if_pos q3] at K
      rw [if_pos (by omega)]
      obtain ⟨d, rfl⟩ : ∃ j : Nat, d = j := ⟨d.toNat, by omega⟩
      refine ⟨by decide, fun _ => m_think h hA (by omega) fun σ' hf hs _ => ⟨by omega, ?_⟩, fun z => absurd z (by decide)⟩
      rw [hs.2 k.toNat (by omega)]
      exact K σ' (fun c k z => hf c k (by omega) (by omega) (by omega)) (h.frameS (frQ_scr hf))
    · rw [if_neg q3] at K
      rw [if_neg (by omega)]
      exact ⟨by decide, fun z => absurd rfl z, fun _ => K σ (fun _ _ _ => rfl) h⟩
  · rw [if_neg q] at K
    rw [if_neg (by omega)]
    exact ⟨by decide, fun z => absurd rfl z, fun _ => K σ (fun _ _ _ => rfl) h⟩
theorem m_tells {X : Cx} {A : AS} {σ : Sg} {t d : Int} (h : InvM A σ) (hA : okA A) (ht : inI t) (hd : inI d) : doesM (opTells A t d) σ (KX12_tells X t d σ) := by
  intro Q K
  unfold opTells at K
  have h8 := hA.1.1
  refine eX12_tells (rX12_tells_0 fun _ => m_isThing h.1.1 h8 ht fun _ => ?_)
  by_cases q : 0 ≤ t ∧ t < (A.1.1 : Int)
  · rw [if_pos q] at K ⊢
    refine ⟨by decide, fun _ => m_in hd (by decide) (by decide) fun _ => ?_, fun z => absurd z (by decide)⟩
    by_cases q3 : 0 ≤ d ∧ d < 21
    · rw [if_pos q3] at K
      rw [if_pos (by omega)]
      obtain ⟨d, rfl⟩ : ∃ j : Nat, d = j := ⟨d.toNat, by omega⟩
      obtain ⟨t, rfl⟩ : ∃ j : Nat, t = j := ⟨t.toNat, by omega⟩
      refine ⟨by decide, fun _ => m_think h hA (by omega) fun σ' hf hs _ => ?_, fun z => absurd z (by decide)⟩
      have h' := h.frameS (frQ_scr hf)
      refine m_findSaid h' hA hs fun σ2 f2 g2 _ => ⟨by omega, ?_⟩
      rw [show σ2 96 ((t : Int).toNat) = _ from g2 t (by omega)]
      have f12 := hf.trans f2.toQ
      exact K σ2 (fun c k z => f12 c k (by omega) (by omega) (by omega)) (h.frameS (frQ_scr f12))
    · rw [if_neg q3] at K
      rw [if_neg (by omega)]
      exact ⟨by decide, fun z => absurd rfl z, fun _ => K σ (fun _ _ _ => rfl) h⟩
  · rw [if_neg q] at K ⊢
    exact ⟨by decide, fun z => absurd rfl z, fun _ => K σ (fun _ _ _ => rfl) h⟩
def frE (σ σ' : Sg) : Prop := ∀ c k, ¬ (c = 69 ∧ 10 ≤ k ∧ k ≤ 16) → ¬ (78 ≤ c ∧ c ≤ 80) → ¬ (94 ≤ c ∧ c ≤ 96) → c ≠ 92 → σ' c k = σ c k
theorem frE_scr {σ σ' : Sg} (h : frE σ σ') : ∀ c k, ¬ scrM c k → σ' c k = σ c k := fun c k z => h c k (by unfold scrM at z; omega) (by unfold scrM at z; omega) (by unfold scrM at z; omega) (by unfold scrM at z; omega)
theorem m_ends {X : Cx} {A : AS} {σ : Sg} (h : InvM A σ) (hA : okA A) : doesM (opEnds A) σ (KX12_ends X σ) := by
  intro Q K
  unfold opEnds at K
  have hl := hA.2.2.1.1
  refine eX12_ends (rX12_ends_0 fun _ => ?_)
  have loop : ∀ e i : Nat, i + e = 21 → ∀ σ1 : Sg, frE σ σ1 → (∀ σ', frE σ σ' → Q (endsF A e) σ') → GX12_ends_2 X i σ1 Q := by
    intro e
    induction e with
    | zero =>
      intro i hi σ1 f1 k
      exact rX12_ends_2 fun _ => ⟨by omega, fun _ => k σ1 f1, fun z => by omega⟩
    | succ e ih =>
      intro i hi σ1 f1 k
      unfold endsF at k
      rw [show 20 - e = i by omega, show 21 - e = i + 1 by omega] at k
      refine rX12_ends_2 fun _ => ⟨by omega, fun z => by omega, fun _ => m_think (h.frameS (frE_scr f1)) hA (by omega) fun σ2 f2 hs2 _ => ?_⟩
      have f12 : frE σ σ2 := fun c k a b d e => by rw [f2 c k a b d]; exact f1 c k a b d e
      have copy : ∀ e2 j : Nat, j + e2 = A.2.2.2.1.length → ∀ σ3 : Sg, frE σ σ3 → (∀ k, σ3 94 k = σ2 94 k) → (∀ k, k < j → σ3 92 k = ((thk A i k : Nat) : Int)) → GX12_ends_15 X i j σ3 Q := by
        intro e2
        induction e2 with
        | zero =>
          intro j hj σ3 f3 g3 b3
          have hj : j = A.2.2.2.1.length := by omega
          have h3 := h.frameS (frE_scr f3)
          have e20 := h3.2.2.2.2.1.1
          refine rX12_ends_15 fun _ => ⟨by omega, fun _ => m_think (d := i + 1) h3 hA (by omega) fun σ4 f4 hs4 _ => ?_, fun z => by omega⟩
          have f34 : frE σ σ4 := fun c k a b d e => by rw [f4 c k a b d]; exact f3 c k a b d e
          have e20' := (h.frameS (frE_scr f34)).2.2.2.2.1.1
          have cmp : ∀ e3 t : Nat, t + e3 = A.2.2.2.1.length → GX12_ends_52 X i (1 - chgF (thk A i) (thk A (i + 1)) t) t σ4 Q := by
            intro e3
            induction e3 with
            | zero =>
              intro t ht
              have ht : t = A.2.2.2.1.length := by omega
              have c01 := chg_01 (T := thk A i) (U := thk A (i + 1)) t
              refine rX12_ends_52 fun _ => ⟨by omega, fun _ => ⟨by omega, fun z => ih (i + 1) (by omega) σ4 f34 fun σ' hf => ?_, fun z => ?_⟩, fun z => by omega⟩
              · have := k σ' hf; rw [← ht, if_neg (by omega)] at this; exact this
              · have := k σ4 f34; rw [← ht, if_pos (by omega)] at this; exact this
            | succ e3 ih3 =>
              intro t ht
              have c01 := chg_01 (T := thk A i) (U := thk A (i + 1)) t
              have nx := ih3 (t + 1) (by omega)
              have ce : chgF (thk A i) (thk A (i + 1)) (t + 1) = (if thk A (i + 1) t ≠ thk A i t then (1 : Int) else chgF (thk A i) (thk A (i + 1)) t) := rfl
              rw [ce] at nx
              have a92 : σ4 92 ((t : Int).toNat) = ((thk A i t : Nat) : Int) := by rw [show ((t : Int).toNat) = t from rfl, f4 92 t (by omega) (by omega) (by omega)]; exact b3 t (by omega)
              have a94 : σ4 94 ((t : Int).toNat) = ((thk A (i + 1) t : Nat) : Int) := hs4.2 t (by omega)
              refine rX12_ends_52 fun _ => ⟨by omega, fun z => by omega, fun _ => ⟨by omega, fun z => rX12_ends_83 fun _ => rX12_ends_84 fun _ => ?_, fun z => ⟨by omega, by omega, ?_⟩⟩⟩
              · split at nx
                · exact nx
                · rw [show 1 - chgF (thk A i) (thk A (i + 1)) t = 0 by omega] at nx; exact nx
              · rw [a92, a94]
                refine ⟨fun y => rX12_ends_83 fun _ => rX12_ends_84 fun _ => ?_, fun y => rX12_ends_84 fun _ => ?_⟩
                · rw [if_pos (by omega)] at nx; exact nx
                · rw [if_neg (by omega), show chgF (thk A i) (thk A (i + 1)) t = 0 by omega] at nx; exact nx
          exact cmp A.2.2.2.1.length 0 (by omega)
        | succ e2 ih2 =>
          intro j hj σ3 f3 g3 b3
          have h3 := h.frameS (frE_scr f3)
          have e20 := h3.2.2.2.2.1.1
          refine rX12_ends_15 fun _ => ⟨by omega, fun z => by omega, fun _ => ⟨by omega, by omega, ih2 (j + 1) (by omega) _ (fun c k a b d e => by rw [up2_nc _ _ e]; exact f3 c k a b d e) (fun k => by rw [up2_nc _ _ (by decide)]; exact g3 k) fun k hk => ?_⟩⟩
          rw [show ((j : Int).toNat) = j from rfl]
          by_cases q : k = j
          · rw [q, up2_s, g3 j]; exact hs2.2 j (by omega)
          · rw [up2_nk _ _ q]; exact b3 k (by omega)
      exact copy A.2.2.2.1.length 0 (by omega) σ2 f12 (fun _ => rfl) fun k hk => by omega
  exact loop 21 0 rfl σ (fun _ _ _ _ _ _ => rfl) fun σ' hf => K σ' (fun c k z => hf c k (by omega) (by omega) (by omega) (by omega)) (h.frameS (frE_scr hf))
