/-! thing -/
theorem atC.frame' {S : Sc} {σ σ' : Sg} (h : atC S σ) (hf : ∀ c k, 1 ≤ c ∧ c ≤ 10 → σ' c k = σ c k) : atC S σ' := ⟨by rw [hf 1 1 (by decide)]; exact h.1, h.2.1, fun r t hr ht => by rw [hf (3 + r) t (by omega)]; exact h.2.2 r t hr ht⟩
theorem bsN_orf {n : Nat} (p q : Nat → Bool) : (bsN n p ||| bsN n q) = bsN n (fun t => p t || q t) := by
  apply Nat.eq_of_testBit_eq
  intro i
  rw [Nat.testBit_or, bsN_bit, bsN_bit, bsN_bit]
  cases decide (i < n) <;> simp
theorem s_add5 {X : Cx} {σ : Sg} {Q : Int → Sg → Prop} {S : Sc} {k c s p : Int} (h : atC S σ) (ho : okR S) (hB : okB2 S) (h8 : S.1 < 8) (hk : inI k) (hc : inI c) (hs : inI s) (hp : 0 ≤ p ∧ p ≤ 15)
    (K : ∀ σ', (∀ c k, c = 0 ∨ 9 ≤ c ∨ c = 6 ∨ (c = 1 ∧ k ≠ 1) → σ' c k = σ c k) → σ' 1 1 = ((S.1 + 1 : Nat) : Int) → (∀ t, t < S.1 → ∀ r, r < 8 → r ≠ 5 → σ' (3 + r) t = S.2 r t) → (σ' 3 S.1 = k ∧ σ' 4 S.1 = c ∧ σ' 5 S.1 = s ∧ σ' 7 S.1 = p) → (∀ t, t < S.1 + 1 → σ' 8 t = ((besS (addS S k c s p) t : Nat) : Int)) → Q (S.1 : Int) σ') : KX5_add X k c s p σ Q := by
  obtain ⟨hn, -, hr⟩ := h
  generalize hN : S.1 = n at *
  refine eX5_add (rX5_add_0 fun _ => ?_)
  rw [hn]
  refine ⟨fun _ => ⟨by omega, hk, by omega, hc, by omega, hs, by omega, by omega, ?_⟩, fun h => by omega⟩
  rw [show ((n : Int).toNat) = n from rfl]
  generalize hs0 : up2 (up2 (up2 (up2 σ 3 n k) 4 n c) 5 n s) 7 n p = σ0
  have f0 : ∀ c' k', ¬ (k' = n ∧ (c' = 3 ∨ c' = 4 ∨ c' = 5 ∨ c' = 7)) → σ0 c' k' = σ c' k' := fun c' k' z => by
    rw [← hs0, up2_a _ _ (by omega), up2_a _ _ (by omega), up2_a _ _ (by omega), up2_a _ _ (by omega)]
  have g7 : σ0 7 n = p := by rw [← hs0, up2_s]
  have g5 : σ0 5 n = s := by rw [← hs0, up2_nc _ _ (by decide), up2_s]
  have g4 : σ0 4 n = c := by rw [← hs0, up2_nc _ _ (by decide), up2_nc _ _ (by decide), up2_s]
  have g3 : σ0 3 n = k := by rw [← hs0, up2_nc _ _ (by decide), up2_nc _ _ (by decide), up2_nc _ _ (by decide), up2_s]
  have hn0 : σ0 1 1 = (n : Int) := by rw [f0 1 1 (by omega)]; exact hn
  have pl : ∀ t, t < n → σ0 7 t = S.2 4 t := fun t ht => by rw [f0 7 t (by omega)]; exact hr 4 t (by decide) (by omega)
  refine s_thoseWith (r := 4) hn0 (by omega) (by decide) (by omega) fun _ => s_thoseWith (r := 4) hn0 (by omega) (by decide) (by omega) fun _ => ?_
  have hlt : ∀ q : Nat → Bool, bsN n q < 256 := fun q => bsN_256 (by omega) q
  rw [zor_nat (by have := hlt (fun t => decide (σ0 (3 + 4) t = p - 1)); omega) (by have := hlt (fun t => decide (σ0 (3 + 4) t = p + 1)); omega), bsN_orf]
  rw [bsN_congr (q := fun t => decide (S.2 4 t = p - 1) || decide (S.2 4 t = p + 1)) n fun t ht => by rw [show σ0 (3 + 4) t = S.2 4 t from pl t ht]]
  generalize hnb : bsN n (fun t => decide (S.2 4 t = p - 1) || decide (S.2 4 t = p + 1)) = nb
  have nb256 : nb < 256 := by rw [← hnb]; exact hlt _
  have nbn : nb = besS (addS S k c s p) n := by
    rw [← hnb]
    show _ = bsN (S.1 + 1) _
    rw [hN]
    show _ = bsN n _ + (if _ then _ else _)
    rw [if_neg (show ¬ _ by
      show ¬ decide ((if n = S.1 then p else S.2 4 n) - (if n = S.1 then p else S.2 4 n) = 1 ∨ (if n = S.1 then p else S.2 4 n) - (if n = S.1 then p else S.2 4 n) = 1) = true
      simp)]
    refine bsN_congr _ fun t ht => ?_
    show _ = decide ((if t = S.1 then p else S.2 4 t) - (if n = S.1 then p else S.2 4 n) = 1 ∨ (if n = S.1 then p else S.2 4 n) - (if t = S.1 then p else S.2 4 t) = 1)
    rw [if_pos hN.symm, if_neg (show ¬ t = S.1 by omega)]
    simp only [← Bool.decide_or]
    apply decide_eq_decide.mpr
    omega
  have bit : ∀ i, i < n → (nb.testBit i = true ↔ (p - S.2 4 i = 1 ∨ S.2 4 i - p = 1)) := fun i hi => by
    rw [← hnb, bsN_bit]
    simp [hi]
    omega
  have old : ∀ i, i < n → besS S i = bsN n (fun o => decide ((if o = n then p else S.2 4 o) - S.2 4 i = 1 ∨ S.2 4 i - (if o = n then p else S.2 4 o) = 1)) := fun i hi => by
    show bsN S.1 _ = _
    rw [hN]
    exact bsN_congr _ fun o hoo => by rw [if_neg (show ¬ o = n by omega)]
  have new : ∀ i, i < n → besS (addS S k c s p) i = bsN (n + 1) (fun o => decide ((if o = n then p else S.2 4 o) - S.2 4 i = 1 ∨ S.2 4 i - (if o = n then p else S.2 4 o) = 1)) := fun i hi => by
    have := besS_add (S := S) (k := k) (c := c) (s := s) (p := p) (t := i) (by omega)
    rw [hN] at this; exact this
  refine ⟨by rw [hn0]; omega, ?_⟩
  rw [hn0, show ((n : Int).toNat) = n from rfl]
  have loop : ∀ d i : Nat, i + d = n → ∀ σ1 : Sg, (∀ c k, c ≠ 8 → σ1 c k = σ0 c k) → (∀ j, j < i → σ1 8 j = (besS (addS S k c s p) j : Nat)) → (∀ j, i ≤ j → j < n → σ1 8 j = (besS S j : Nat)) → σ1 8 n = (besS (addS S k c s p) n : Nat) → GX5_add_98 X k c s p nb i σ1 Q := by
    intro d
    induction d with
    | zero =>
      intro i hi σ1 a1 a2 a3 a4
      have : i = n := by omega
      subst this
      have e : σ1 1 1 = (i : Int) := by rw [a1 1 1 (by decide)]; exact hn0
      refine rX5_add_98 fun _ => ⟨by omega, fun _ => ?_, fun z => by omega⟩
      rw [e]
      refine ⟨by omega, K _ (fun c k z => ?_) (up2_s _ _ _ _) (fun t ht r hr8 hr5 => ?_) ⟨?_, ?_, ?_, ?_⟩ (fun t ht => ?_)⟩
      · rw [up2_a _ _ (by omega), a1 c k (by omega), f0 c k (by omega)]
      · rw [up2_nc _ _ (by omega), a1 _ _ (by omega), f0 _ _ (by omega)]; exact hr r t hr8 (by omega)
      · rw [up2_nc _ _ (by omega), a1 _ _ (by omega)]; exact g3
      · rw [up2_nc _ _ (by omega), a1 _ _ (by omega)]; exact g4
      · rw [up2_nc _ _ (by omega), a1 _ _ (by omega)]; exact g5
      · rw [up2_nc _ _ (by omega), a1 _ _ (by omega)]; exact g7
      · rw [up2_nc _ _ (by omega)]
        rcases Nat.lt_succ_iff_lt_or_eq.mp ht with q | rfl
        · exact a2 t q
        · exact a4
    | succ d ih =>
      intro i hi σ1 a1 a2 a3 a4
      have e : σ1 1 1 = (n : Int) := by rw [a1 1 1 (by decide)]; exact hn0
      refine rX5_add_98 fun _ => ⟨by omega, fun z => by omega, fun _ => ⟨by omega, by omega, ?_⟩⟩
      rw [e, show ((i : Int).toNat) = i from rfl, a3 i (by omega) (by omega), bit_iff (by omega) (by omega)]
      have e2 : zor (besS S i : Nat) (zshl (if nb.testBit i = true then 1 else 0) n) = ((besS (addS S k c s p) i : Nat) : Int) := by
        rw [old i (by omega), new i (by omega)]
        have b := bit i (by omega)
        by_cases q : nb.testBit i = true
        · rw [if_pos q]
          exact bs_in (by omega) (by rw [if_pos rfl]; simpa using b.mp q)
        · rw [if_neg q, zshl_0 (by omega), zor_0 (by have := hlt (fun o => decide ((if o = n then p else S.2 4 o) - S.2 4 i = 1 ∨ S.2 4 i - (if o = n then p else S.2 4 o) = 1)); omega)]
          rw [bs_out (p := fun o => decide ((if o = n then p else S.2 4 o) - S.2 4 i = 1 ∨ S.2 4 i - (if o = n then p else S.2 4 o) = 1)) (i := n) (by rw [if_pos rfl]; intro y; exact q (b.mpr (by simpa using y)))]
      rw [e2]
      refine ih (i + 1) (by omega) _ (fun c k z => by rw [up2_nc _ _ z]; exact a1 c k z) (fun j hj => ?_) (fun j h1 h2 => by rw [up2_nk _ _ (by omega)]; exact a3 j (by omega) h2) (by rw [up2_nk _ _ (by omega)]; exact a4)
      by_cases q : j = i
      · subst q; rw [up2_s]
      · rw [up2_nk _ _ q]; exact a2 j (by omega)
  refine loop n 0 (by omega) _ (fun c k z => up2_nc _ _ z) (fun j hj => by omega) (fun j _ h2 => ?_) (by rw [up2_s, nbn])
  rw [up2_nk _ _ (by omega), f0 8 j (by omega)]
  have := hr 5 j (by decide) (by omega)
  rw [show σ 8 j = σ (3 + 5) j from rfl, this]
  exact (hB j (by omega)).1
theorem s_look0 {X : Cx} {σ : Sg} {Q : Int → Sg → Prop} {v : Int} (hv : inI v) (k : Q (if 0 ≤ v ∧ v ≤ 3 then 1 else 0) σ) : KX5_isLook X 0 v σ Q := s_isLook (w := 0) (by decide) hv k
theorem s_look1 {X : Cx} {σ : Sg} {Q : Int → Sg → Prop} {v : Int} (hv : inI v) (k : Q (if 0 ≤ v ∧ v ≤ 3 then 1 else 0) σ) : KX5_isLook X 1 v σ Q := s_isLook (w := 1) (by decide) hv k
theorem s_look2 {X : Cx} {σ : Sg} {Q : Int → Sg → Prop} {v : Int} (hv : inI v) (k : Q (if 1 ≤ v ∧ v ≤ 9 then 1 else 0) σ) : KX5_isLook X 2 v σ Q := s_isLook (w := 2) (by decide) hv k
theorem s_look3 {X : Cx} {σ : Sg} {Q : Int → Sg → Prop} {v : Int} (hv : inI v) (k : Q (if 0 ≤ v ∧ v ≤ 7 then 1 else 0) σ) : KX5_isLook X 3 v σ Q := s_isLook (w := 3) (by decide) hv k
theorem c_thing {CK : CKt} {X : Cx} {A : AS} {m : Nat} {σ : Sg} {k c s p : Int} (h : InvC CK A m σ) (hA : okA A) (hm : m < 1000) (hk : inI k) (hc : inI c) (hs : inI s) (hp : inI p) : doesC CK m (opThing A k c s p) σ (KX11_thing X k c s p σ) := by
  intro Q K
  have hat := h.1
  obtain ⟨⟨h8, hoR, hB, hap, hti⟩, -, hK, -⟩ := hA
  unfold opThing at K
  refine eX11_thing (rX11_thing_0 fun _ => s_look0 hk fun _ => ?_)
  have out : ¬ ((0 ≤ k ∧ k ≤ 3) ∧ (0 ≤ c ∧ c ≤ 3) ∧ (1 ≤ s ∧ s ≤ 9) ∧ (0 ≤ p ∧ p ≤ 15)) → Q (-3) σ := fun z => by
    rw [if_neg z] at K
    exact K σ (fun _ _ _ => rfl) h.more
  by_cases hk3 : 0 ≤ k ∧ k ≤ 3
  · rw [if_pos hk3]
    refine ⟨by decide, fun z => absurd z (by decide), fun _ => s_look1 hc fun _ => ?_⟩
    by_cases hc3 : 0 ≤ c ∧ c ≤ 3
    · rw [if_pos hc3]
      refine ⟨by decide, fun z => absurd z (by decide), fun _ => s_look2 hs fun _ => ?_⟩
      by_cases hs9 : 1 ≤ s ∧ s ≤ 9
      · rw [if_pos hs9]
        refine ⟨by decide, fun z => absurd z (by decide), fun _ => s_isWithin hp (by decide) fun _ => ?_⟩
        by_cases hp15 : 0 ≤ p ∧ p < 16
        · rw [if_pos hp15]
          rw [if_pos ⟨hk3, hc3, hs9, by omega⟩] at K
          refine ⟨by decide, fun _ => eX5_isTaken (rX5_isTaken_0 fun _ => s_with (r := 4) hat (by decide) hp fun _ => ⟨by have := bsN_256 (n := A.1.1) h8 (fun t => decide (A.1.2 4 t = p)); unfold F_with; omega, fun z _ => ⟨by decide, fun _ => ?_, fun y => absurd rfl y⟩, fun z _ => ⟨by decide, fun y => absurd y (by decide), fun _ => ?_⟩⟩), fun z => absurd z (by decide)⟩
          · rw [if_pos (by omega)] at K
            rw [hat.1]
            refine ⟨fun z8 => ?_, fun z8 => ?_⟩
            · rw [if_pos (by omega)] at K
              have h11 := h.2.2.2.2.2.2.2.1
              refine ⟨by omega, s_add5 (S := A.1) (hat.frame' ?_) hoR hB (by omega) hk hc hs (by omega) ?_⟩
              · intro c k z; exact up2_nc _ _ (by omega)
              · intro σ' f1 f2 f3 f4 f5 _
                refine K σ' (fun c k z => by rw [f1 c k (by omega), up2_nc _ _ (by omega)]) (h.scene hK.1 (fun c k z => by rw [f1 c k (by omega), up2_a _ _ (by omega)]) ⟨f2, by show A.1.1 + 1 ≤ 8; omega, fun r t hr ht => ?_⟩ (fun t ht1 ht2 => ?_) ?_ ?_)
                · have ht' : t < A.1.1 + 1 := ht
                  show σ' (3 + r) t = (if r = 5 then _ else (if t = A.1.1 then _ else A.1.2 r t))
                  by_cases q5 : r = 5
                  · subst q5; rw [if_pos rfl]; exact f5 t ht'
                  · rw [if_neg q5]
                    by_cases qt : t = A.1.1
                    · rw [if_pos qt, qt]
                      have hz := h.2.1 A.1.1 (Nat.le_refl _) (by omega)
                      rcases (show r = 0 ∨ r = 1 ∨ r = 2 ∨ r = 3 ∨ r = 4 ∨ r = 6 ∨ r = 7 by omega) with rfl | rfl | rfl | rfl | rfl | rfl | rfl
                      · exact f4.1
                      · exact f4.2.1
                      · exact f4.2.2.1
                      · rw [show σ' (3 + 3) A.1.1 = _ from f1 6 A.1.1 (by omega)]; rw [up2_nc _ _ (by decide)]; exact hz.1
                      · exact f4.2.2.2
                      · rw [show σ' (3 + 6) A.1.1 = _ from f1 9 A.1.1 (by omega)]; rw [up2_nc _ _ (by decide)]; exact hz.2.1
                      · rw [show σ' (3 + 7) A.1.1 = _ from f1 10 A.1.1 (by omega)]; rw [up2_nc _ _ (by decide)]; exact hz.2.2
                    · rw [if_neg qt]; exact f3 t (by omega) r hr q5
                · have hz := h.2.1 t (by have : A.1.1 + 1 ≤ t := ht1; omega) ht2
                  rw [f1 6 t (by omega), f1 9 t (by omega), f1 10 t (by omega), up2_nc _ _ (by decide), up2_nc _ _ (by decide), up2_nc _ _ (by decide)]
                  exact hz
                · rw [f1 1 2 (by omega), up2_nc _ _ (by decide), addS_tsum]; exact h.2.2.1
                · rw [f1 0 11 (by omega), up2_s]
            · rw [if_neg (by omega)] at K
              exact K σ (fun _ _ _ => rfl) h.more
          · rw [if_neg (by omega)] at K
            exact K σ (fun _ _ _ => rfl) h.more
        · rw [if_neg hp15]
          exact ⟨by decide, fun z => absurd rfl z, fun _ => out (by omega)⟩
      · rw [if_neg hs9]
        exact ⟨by decide, fun _ => out (by omega), fun z => absurd rfl z⟩
    · rw [if_neg hc3]
      exact ⟨by decide, fun _ => out (by omega), fun z => absurd rfl z⟩
  · rw [if_neg hk3]
    exact ⟨by decide, fun _ => out (by omega), fun z => absurd rfl z⟩
