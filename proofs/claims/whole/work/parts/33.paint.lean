/-! thing of the reference; paint, of, price -/
theorem m_thing {X : Cx} {A : AS} {σ : Sg} {k c s p : Int} (h : InvM A σ) (hA : okA A) (hk : inI k) (hc : inI c) (hs : inI s) (hp : inI p) : doesM (opThing A k c s p) σ (KX12_thing X k c s p σ) := by
  intro Q K
  have hat := h.1
  obtain ⟨hn, h8, hr⟩ := hat
  have hz := h.2.1
  unfold opThing at K
  have out : ¬ ((0 ≤ k ∧ k ≤ 3) ∧ (0 ≤ c ∧ c ≤ 3) ∧ (1 ≤ s ∧ s ≤ 9) ∧ (0 ≤ p ∧ p ≤ 15)) → Q (-3) σ := fun z => by
    rw [if_neg z] at K
    exact K σ (fun _ _ _ => rfl) h
  refine eX12_thing (rX12_thing_0 fun _ => m_in hk (by decide) (by decide) fun _ => ?_)
  by_cases hk3 : 0 ≤ k ∧ k ≤ 3
  · rw [if_pos hk3]
    refine ⟨by decide, fun z => absurd z (by decide), fun _ => m_in hc (by decide) (by decide) fun _ => ?_⟩
    by_cases hc3 : 0 ≤ c ∧ c ≤ 3
    · rw [if_pos hc3]
      refine ⟨by decide, fun z => absurd z (by decide), fun _ => m_in hs (by decide) (by decide) fun _ => ?_⟩
      by_cases hs9 : 1 ≤ s ∧ s ≤ 9
      · rw [if_pos hs9]
        refine ⟨by decide, fun z => absurd z (by decide), fun _ => m_in hp (by decide) (by decide) fun _ => ?_⟩
        by_cases hp15 : 0 ≤ p ∧ p ≤ 15
        · rw [if_pos hp15]
          rw [if_pos ⟨hk3, hc3, hs9, hp15⟩] at K
          refine ⟨by decide, fun _ => ?_, fun z => absurd z (by decide)⟩
          have loop : ∀ d i : Nat, i + d = A.1.1 → (∀ t, t < i → A.1.2 4 t ≠ p) → GX12_thing_45 X k c s p i σ Q := by
            intro d
            induction d with
            | zero =>
              intro i hi hne
              have : i = A.1.1 := by omega
              subst this
              rw [if_pos (show F_with A.1 4 p = 0 from (bsN_zero _).mpr fun t ht => by simpa using hne t ht)] at K
              refine rX12_thing_45 fun _ => ⟨by omega, fun _ => ⟨fun q => ?_, fun q => ?_⟩, fun z => by omega⟩
              · rw [if_pos (by omega)] at K
                rw [hn, show (((A.1.1 : Nat) : Int).toNat) = A.1.1 from rfl, show ((A.1.1 : Int) + 1 - 1) = (A.1.1 : Int) by omega]
                refine ⟨by omega, hk, by omega, hc, by omega, hs, by omega, hp, by omega, K _ (fun c' k' z => ?_) (h.scene (fun c' k' z1 z2 z3 => ?_) ⟨up2_s _ _ _ _, by show A.1.1 + 1 ≤ 8; omega, fun t ht => ?_⟩ fun t ht1 ht2 => ?_)⟩
                · rw [up2_nc _ _ (by omega), up2_nc _ _ (by omega), up2_nc _ _ (by omega), up2_nc _ _ (by omega), up2_nc _ _ (by omega)]
                · rw [up2_a _ _ z1, up2_nc _ _ (by omega), up2_nc _ _ (by omega), up2_nc _ _ (by omega), up2_nc _ _ (by omega)]
                · have ht' : t < A.1.1 + 1 := ht
                  simp only [addS, baseS, up2_nc _ _ (show (70 : Nat) ≠ 69 by decide), up2_nc _ _ (show (71 : Nat) ≠ 69 by decide), up2_nc _ _ (show (72 : Nat) ≠ 69 by decide), up2_nc _ _ (show (73 : Nat) ≠ 69 by decide), up2_nc _ _ (show (74 : Nat) ≠ 69 by decide), up2_nc _ _ (show (75 : Nat) ≠ 69 by decide), up2_nc _ _ (show (70 : Nat) ≠ 74 by decide), up2_nc _ _ (show (71 : Nat) ≠ 74 by decide), up2_nc _ _ (show (72 : Nat) ≠ 74 by decide), up2_nc _ _ (show (73 : Nat) ≠ 74 by decide), up2_nc _ _ (show (75 : Nat) ≠ 74 by decide), up2_nc _ _ (show (70 : Nat) ≠ 72 by decide), up2_nc _ _ (show (71 : Nat) ≠ 72 by decide), up2_nc _ _ (show (73 : Nat) ≠ 72 by decide), up2_nc _ _ (show (75 : Nat) ≠ 72 by decide), up2_nc _ _ (show (70 : Nat) ≠ 71 by decide), up2_nc _ _ (show (73 : Nat) ≠ 71 by decide), up2_nc _ _ (show (75 : Nat) ≠ 71 by decide), up2_nc _ _ (show (73 : Nat) ≠ 70 by decide), up2_nc _ _ (show (75 : Nat) ≠ 70 by decide)]
                  by_cases qt : t = A.1.1
                  · subst qt
                    simp [up2_s]
                    exact hz A.1.1 (Nat.le_refl _) (by omega)
                  · have := hr t (by omega)
                    simp [up2_nk _ _ qt, qt]
                    exact this
                · have := hz t (by have : A.1.1 + 1 ≤ t := ht1; omega) ht2
                  rw [up2_nc _ _ (by decide), up2_nc _ _ (by decide), up2_nc _ _ (by decide), up2_nc _ _ (by decide), up2_nc _ _ (by decide), up2_nc _ _ (by decide), up2_nc _ _ (by decide), up2_nc _ _ (by decide), up2_nc _ _ (by decide), up2_nc _ _ (by decide)]
                  exact this
              · rw [if_neg (by omega)] at K
                exact K σ (fun _ _ _ => rfl) h
            | succ d ih =>
              intro i hi hne
              have e : σ 74 ((i : Int).toNat) = A.1.2 4 i := (hr i (by omega)).2.2.2.2.1
              refine rX12_thing_45 fun _ => ⟨by omega, fun z => by omega, fun _ => ⟨by omega, hp, ?_⟩⟩
              rw [e]
              refine ⟨fun z => ih (i + 1) (by omega) fun t ht => ?_, fun z => ?_⟩
              · rcases Nat.lt_succ_iff_lt_or_eq.mp ht with q | rfl
                · exact hne t q
                · exact z
              · rw [if_neg (fun y => by have := (bsN_zero _).mp y i (by omega); simp at this; exact this z)] at K
                exact K σ (fun _ _ _ => rfl) h
          exact loop A.1.1 0 (by omega) fun t ht => by omega
        · rw [if_neg hp15]
          exact ⟨by decide, fun z => absurd rfl z, fun _ => out (by omega)⟩
      · rw [if_neg hs9]
        exact ⟨by decide, fun _ => out (by omega), fun z => absurd rfl z⟩
    · rw [if_neg hc3]
      exact ⟨by decide, fun _ => out (by omega), fun z => absurd rfl z⟩
  · rw [if_neg hk3]
    exact ⟨by decide, fun _ => out (by omega), fun z => absurd rfl z⟩
/-- paint -/
abbrev isThingN (S : Sc) (v : Int) : Prop := 0 ≤ v ∧ v < S.1
def setS (S : Sc) (w t : Nat) (v : Int) : Sc := (S.1, fun r i => if r = w ∧ i = t then v else S.2 r i)
abbrev lookOk (w v : Int) : Prop := (0 ≤ w ∧ w < 4) ∧ (if w = 2 then 1 else 0) ≤ v ∧ v ≤ (if w < 2 then 3 else if w = 2 then 9 else 7)
def opPaint (A : AS) (t w v : Int) : Int × AS :=
  if isThingN A.1 t then (if lookOk w v then (A.1.2 w.toNat t.toNat, (setS A.1 w.toNat t.toNat v, A.2)) else (-3, A)) else (-2, A)
theorem setS_low {S : Sc} {w t r : Nat} {v : Int} (hw : w < 4) (hr : 4 ≤ r) (i : Nat) : (setS S w t v).2 r i = S.2 r i := if_neg (by omega)
theorem setS_bes {S : Sc} {w t : Nat} {v : Int} (hw : w < 4) (i : Nat) : besS (setS S w t v) i = besS S i := bsN_congr _ fun o _ => by rw [setS_low hw (by decide), setS_low hw (by decide)]
theorem setS_fr {S : Sc} {w t : Nat} {v : Int} (hw : w < 4) (i : Nat) : frS (setS S w t v) i = frS S i := bsN_congr _ fun o _ => by rw [setS_low hw (by decide)]
theorem setS_ok {S : Sc} {w t : Nat} {v : Int} (h : okS S) (hw : w < 4) (hv : (if w = 2 then 1 else 0) ≤ v ∧ v ≤ (if w < 2 then 3 else if w = 2 then 9 else 7)) : okS (setS S w t v) := by
  obtain ⟨h1, h2, h3, h4, h5⟩ := h
  refine ⟨h1, fun i hi => ?_, fun i hi => ?_, fun a b ha hb e => ?_, fun i hi => ?_⟩
  · have q := h2 i hi
    rw [setS_low (r := 4) hw (by decide), setS_low (r := 5) hw (by decide), setS_low (r := 6) hw (by decide), setS_low (r := 7) hw (by decide)]
    show (0 ≤ (if 0 = w ∧ i = t then v else S.2 0 i) ∧ (if 0 = w ∧ i = t then v else S.2 0 i) ≤ 3) ∧ (0 ≤ (if 1 = w ∧ i = t then v else S.2 1 i) ∧ (if 1 = w ∧ i = t then v else S.2 1 i) ≤ 3) ∧ (1 ≤ (if 2 = w ∧ i = t then v else S.2 2 i) ∧ (if 2 = w ∧ i = t then v else S.2 2 i) ≤ 9) ∧ (0 ≤ (if 3 = w ∧ i = t then v else S.2 3 i) ∧ (if 3 = w ∧ i = t then v else S.2 3 i) ≤ 7) ∧ _
    by_cases qt : i = t
    · rcases (show w = 0 ∨ w = 1 ∨ w = 2 ∨ w = 3 by omega) with rfl | rfl | rfl | rfl <;> simp [qt] at hv ⊢ <;> rw [← qt] <;> exact ⟨by omega, by omega, by omega, by omega, q.2.2.2.2⟩
    · rw [if_neg (by omega), if_neg (by omega), if_neg (by omega), if_neg (by omega)]
      exact q
  · rw [setS_low hw (by decide), setS_low hw (by decide), setS_bes hw, setS_fr hw]
    exact h3 i hi
  · rw [setS_low hw (by decide), setS_low hw (by decide)] at e
    exact h4 a b ha hb e
  · rw [setS_low hw (by decide)]
    exact h5 i hi
theorem opPaint_ok {A : AS} {t w v : Int} (h : okA A) : okA (opPaint A t w v).2 := by
  unfold opPaint
  split
  · split
    · rename_i h1 h2
      obtain ⟨a, b, d, e⟩ := h
      obtain ⟨q1, q2⟩ := h2
      refine ⟨setS_ok a (by omega) ?_, b, d, e⟩
      obtain ⟨n, rfl⟩ : ∃ n : Nat, w = n := ⟨w.toNat, by omega⟩
      have e1 : (if (n : Int) = 2 then (1 : Int) else 0) = (if n = 2 then 1 else 0) := by by_cases q : n = 2 <;> simp [q]; omega
      have e2 : (if (n : Int) < 2 then (3 : Int) else if (n : Int) = 2 then 9 else 7) = (if n < 2 then 3 else if n = 2 then 9 else 7) := by
        rcases (show n = 0 ∨ n = 1 ∨ n = 2 ∨ n = 3 by omega) with rfl | rfl | rfl | rfl <;> rfl
      rw [e1, e2] at q2
      exact q2
    · exact h
  · exact h
theorem c_paint {CK : CKt} {X : Cx} {A : AS} {m : Nat} {σ : Sg} {t w v : Int} (h : InvC CK A m σ) (hA : okA A) (hm : m < 1000) (ht : inI t) (hw : inI w) (hv : inI v) : doesC CK m (opPaint A t w v) σ (KX11_paint X t w v σ) := by
  intro Q K
  have hat := h.1
  obtain ⟨⟨h8, hoR, hB, hap, hti⟩, -, hK, -⟩ := hA
  unfold opPaint at K
  refine eX11_paint (rX11_paint_0 fun _ => s_has hat.1 h8 ht fun _ => ?_)
  by_cases q : 0 ≤ t ∧ t < (A.1.1 : Int)
  · rw [if_pos q] at K ⊢
    refine ⟨by decide, fun _ => ?_, fun z => absurd z (by decide)⟩
    obtain ⟨i, rfl⟩ : ∃ i : Nat, t = i := ⟨t.toNat, by omega⟩
    by_cases q4 : 0 ≤ w ∧ w < 4
    · obtain ⟨n, rfl⟩ : ∃ n : Nat, w = n := ⟨w.toNat, by omega⟩
      have e1 : (if (n : Int) = 2 then (1 : Int) else 0) = (if n = 2 then 1 else 0) := by by_cases q : n = 2 <;> simp [q]; omega
      have e2 : (if (n : Int) < 2 then (3 : Int) else if (n : Int) = 2 then 9 else 7) = (if n < 2 then 3 else if n = 2 then 9 else 7) := by
        rcases (show n = 0 ∨ n = 1 ∨ n = 2 ∨ n = 3 by omega) with rfl | rfl | rfl | rfl <;> rfl
      refine s_isLook (by omega) hv fun _ => ?_
      by_cases ql : (if n = 2 then 1 else 0) ≤ v ∧ v ≤ (if n < 2 then 3 else if n = 2 then 9 else 7)
      · rw [if_pos ql]
        rw [if_pos (show lookOk n v from ⟨q4, by rw [e1, e2]; exact ql⟩)] at K
        refine ⟨by decide, fun _ => ?_, fun z => absurd z (by decide)⟩
        have h11 := h.2.2.2.2.2.2.2.1
        rw [show ((n : Int).toNat) = n from rfl, show ((i : Int).toNat) = i from rfl] at *
        rw [up2_nc _ _ (show 0 ≠ 3 + n by omega)]
        refine ⟨by omega, by omega, by omega, by omega, hv, by omega, ?_⟩
        rw [hat.2.2 n i (by omega) (by omega)]
        refine K _ (fun c k z => by rw [up2_nc _ _ (by omega), up2_nc _ _ (by omega)]) (h.scene hK.1 (fun c k z => by rw [up2_a _ _ (by omega), up2_nc _ _ (by omega)]) ⟨by rw [up2_nc _ _ (by omega), up2_nc _ _ (by omega)]; exact hat.1, h8, fun r j hr hj => ?_⟩ (fun j hj1 hj2 => ?_) ?_ ?_)
        · rw [up2_nc _ _ (by omega)]
          show _ = (if r = n ∧ j = i then v else A.1.2 r j)
          by_cases qq : r = n ∧ j = i
          · rw [if_pos qq, qq.1, qq.2, up2_s]
          · rw [if_neg qq, up2_a _ _ (by omega)]; exact hat.2.2 r j hr hj
        · have hj1' : A.1.1 ≤ j := hj1
          rw [up2_a _ _ (by omega), up2_a _ _ (by omega), up2_a _ _ (by omega), up2_a _ _ (by omega), up2_a _ _ (by omega), up2_a _ _ (by omega)]
          exact h.2.1 j hj1 hj2
        · rw [up2_nc _ _ (by omega), up2_nc _ _ (by omega), h.2.2.1]
          congr 1
          exact (tsF_congr _ fun j hj => by rw [setS_low (by omega) (by decide)]).symm
        · rw [up2_s]
      · rw [if_neg ql]
        rw [if_neg (fun z : lookOk n v => ql (by have := z.2; rw [e1, e2] at this; exact this))] at K
        exact ⟨by decide, fun z => absurd rfl z, fun _ => K σ (fun _ _ _ => rfl) h.more⟩
    · refine s_isLookOut hw q4 fun _ => ?_
      rw [if_neg (fun z : lookOk w v => q4 z.1)] at K
      exact ⟨by decide, fun z => absurd rfl z, fun _ => K σ (fun _ _ _ => rfl) h.more⟩
  · rw [if_neg q] at K ⊢
    exact ⟨by decide, fun z => absurd rfl z, fun _ => K σ (fun _ _ _ => rfl) h.more⟩
