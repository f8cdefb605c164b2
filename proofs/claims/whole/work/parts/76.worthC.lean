/-! worth of the class -/
def frB (σ σ' : Sg) : Prop := ∀ c k, ¬ (50 ≤ c ∧ c ≤ 56) → ¬ (c = 49 ∧ (k = 3 ∨ k = 4)) → σ' c k = σ c k
theorem frB.trans {σ σ1 σ2 : Sg} (h1 : frB σ σ1) (h2 : frB σ1 σ2) : frB σ σ2 := fun c k a b => (h2 c k a b).trans (h1 c k a b)
theorem s_tryMark {X : Cx} {σ : Sg} {Q : Int → Sg → Prop} {S : Sc} {P : Nat → Int} {wd t m : Nat} {B : BT} (hA : atC S σ) (hS : okS S) (hP : okP P) (hp : ∀ w, w < 15 → σ 11 w = P w) (hwd : wd < 32768) (h1 : σ 49 1 = (wd : Int)) (h3 : σ 49 3 = B.2) (h4 : σ 49 4 = B.1) (hB : okBT S P wd B) (ht : t < S.1) (hm : m < 3) (K : ∀ σ', frB σ σ' → σ' 49 3 = (bstS S P wd B t m).2 → σ' 49 4 = (bstS S P wd B t m).1 → Q 0 σ') : KX0_tryMark X t m σ Q := by
  have h8 := hS.1
  have e6 : σ 6 t = S.2 3 t := hA.2.2 3 t (by decide) ht
  have r7 := (hS.2.1 t ht).2.2.2.1
  have ex : ((S.2 3 t).toNat : Int) = S.2 3 t := by omega
  have hbi := bit_iff (a := (S.2 3 t).toNat) (i := m) (by omega) (by omega)
  unfold bstS at K
  refine eX0_tryMark (rX0_tryMark_0 fun _ => s_has hA.1 h8 (by omega) fun _ => ?_)
  rw [if_pos (by omega)]
  refine ⟨by decide, fun z => absurd z (by decide), fun _ => ⟨by omega, ?_⟩⟩
  rw [show ((t : Int).toNat) = t from rfl, e6, ← ex, hbi]
  by_cases hb : (S.2 3 t).toNat.testBit m = true
  · rw [if_pos hb] at K
    rw [if_pos hb]
    exact ⟨fun z => absurd rfl z, fun _ => K σ (fun _ _ _ _ => rfl) h3 h4⟩
  · rw [if_neg hb] at K
    rw [if_neg hb]
    have pm : 2 ^ m < 2 ^ 3 := Nat.pow_lt_pow_right (by decide) (by omega)
    have v7 := mrk_val (x := (S.2 3 t).toNat) (by omega) hm
    refine ⟨fun _ => ⟨by omega, by omega, ?_⟩, fun z => absurd z (by decide)⟩
    rw [zshl_one (by omega), zor_nat (by omega) (by omega), h1]
    have hS' := mrk_ok hS ht hm
    have hA' : atC (mrkS S t m) (up2 σ 6 t (((S.2 3 t).toNat ||| 2 ^ m : Nat) : Int)) := by
      refine ⟨by rw [up2_nc _ _ (by decide)]; exact hA.1, h8, fun r i hr hi => ?_⟩
      have q := hA.2.2 r i hr hi
      show _ = (if r = 3 ∧ i = t then (((S.2 3 t).toNat ||| 2 ^ m : Nat) : Int) else S.2 r i)
      by_cases qi : r = 3 ∧ i = t
      · rw [if_pos qi, qi.1, qi.2]; exact up2_s _ _ _ _
      · rw [if_neg qi, up2_a _ _ (by omega)]; exact q
    refine s_fill9 (c0 := 50) (th := 1) (Or.inr rfl) hA' hS' hP (fun w hw' => by rw [up2_nc _ _ (by decide)]; exact hp w hw') hwd (Or.inr rfl) fun σ1 f1 _ t1 => fun _ => ?_
    have e61 : σ1 6 t = (((S.2 3 t).toNat ||| 2 ^ m : Nat) : Int) := by rw [f1 6 t (by omega) (by omega), up2_s]
    have e11 : σ1 1 1 = (S.1 : Int) := by rw [f1 1 1 (by decide) (by decide), up2_nc _ _ (by decide)]; exact hA.1
    rw [e61, e11, zandn_nat (by omega) (by omega), mrk_back (by simpa using hb)]
    have f2 : frB σ (up2 σ1 6 t ((S.2 3 t).toNat : Int)) := fun c j z z2 => by
      by_cases q : c = 6 ∧ j = t
      · rw [q.1, q.2, up2_s, ex, e6]
      · rw [up2_a _ _ q, f1 c j (by omega) (by omega), up2_a _ _ q]
    have g3 : (up2 σ1 6 t ((S.2 3 t).toNat : Int)) 49 3 = B.2 := by rw [up2_nc _ _ (by decide), f1 49 3 (by decide) (by decide), up2_nc _ _ (by decide)]; exact h3
    have g4 : (up2 σ1 6 t ((S.2 3 t).toNat : Int)) 49 4 = B.1 := by rw [up2_nc _ _ (by decide), f1 49 4 (by decide) (by decide), up2_nc _ _ (by decide)]; exact h4
    have t2 : tabC (mrkS S t m) 1 50 (srchW (mrkS S t m) P wd) (up2 σ1 6 t ((S.2 3 t).toNat : Int)) := t1.frame fun c k hk => up2_a _ _ (by omega)
    generalize up2 σ1 6 t ((S.2 3 t).toNat : Int) = σ2 at *
    have rr := wrth_rng (S := mrkS S t m) (wd := wd) hP hS'.1 S.1
    refine ⟨by omega, by omega, s_worthOf (S := mrkS S t m) (c0 := 50) (Or.inr rfl) h8 t2 fun _ => ?_⟩
    have e1 : (mrkS S t m).1 = S.1 := rfl
    rw [e1]
    generalize wrthF (srchW (mrkS S t m) P wd) S.1 = v at *
    rw [g3, g4]
    have put : (B.2 = -1 ∨ v < B.2) → GX0_tryMark_98 X t m v σ2 Q := fun hv => by
      refine rX0_tryMark_98 fun _ => ⟨by omega, by omega, ?_⟩
      rw [if_pos hv] at K
      refine K _ (fun c j z z2 => by rw [up2_a _ _ (by omega), up2_a _ _ (by omega)]; exact f2 c j z z2) ?_ ?_
      · rw [up2_nk _ _ (by decide), up2_s]
      · rw [up2_s]
        show (4 * (t : Int)) + (m : Int) = ((4 * t + m : Nat) : Int)
        omega
    have Bq : B.1 = -1 ↔ B.2 = -1 := by
      rcases hB with o | o
      · rw [o]
      · omega
    refine ⟨fun z => put (Or.inl (Bq.mp z)), fun z => ⟨by omega, fun y => ?_, fun y => put (Or.inr y)⟩⟩
    have : B.2 ≠ -1 := fun q => z (Bq.mpr q)
    rw [if_neg (by omega)] at K
    exact K σ2 f2 g3 g4
theorem s_findB {X : Cx} {σ : Sg} {Q : Int → Sg → Prop} {S : Sc} {P : Nat → Int} {wd : Nat} (hA : atC S σ) (hS : okS S) (hP : okP P) (hp : ∀ w, w < 15 → σ 11 w = P w) (hwd : wd < 32768) (K : ∀ σ', (∀ c k, ¬ (49 ≤ c ∧ c ≤ 56) → σ' c k = σ c k) → σ' 49 2 = σ 49 2 → σ' 49 1 = (wd : Int) → σ' 49 3 = (bstN S P wd S.1).2 → σ' 49 4 = (bstN S P wd S.1).1 → Q 0 σ') : KX0_find X wd σ Q := by
  have h8 := hS.1
  refine eX0_find (rX0_find_0 fun _ => ⟨by omega, ?_⟩)
  have f0 : ∀ c k, c ≠ 49 → (up2 (up2 (up2 σ 49 1 wd) 49 3 (-1)) 49 4 (-1)) c k = σ c k := fun c k z => by rw [up2_nc _ _ z, up2_nc _ _ z, up2_nc _ _ z]
  have a1 : (up2 (up2 (up2 σ 49 1 wd) 49 3 (-1)) 49 4 (-1)) 49 1 = (wd : Int) := by rw [up2_nk _ _ (by decide), up2_nk _ _ (by decide), up2_s]
  have a2 : (up2 (up2 (up2 σ 49 1 wd) 49 3 (-1)) 49 4 (-1)) 49 2 = σ 49 2 := by rw [up2_nk _ _ (by decide), up2_nk _ _ (by decide), up2_nk _ _ (by decide)]
  have a3 : (up2 (up2 (up2 σ 49 1 wd) 49 3 (-1)) 49 4 (-1)) 49 3 = -1 := by rw [up2_nk _ _ (by decide), up2_s]
  have a4 : (up2 (up2 (up2 σ 49 1 wd) 49 3 (-1)) 49 4 (-1)) 49 4 = -1 := up2_s _ _ _ _
  generalize up2 (up2 (up2 σ 49 1 wd) 49 3 (-1)) 49 4 (-1) = σ0 at *
  have hA0 : atC S σ0 := hA.frame fun c k z => f0 c k (by omega)
  have hp0 : ∀ w, w < 15 → σ0 11 w = P w := fun w hw' => by rw [f0 11 w (by omega)]; exact hp w hw'
  have outer : ∀ d t : Nat, t + d = S.1 → ∀ σ1, frB σ0 σ1 → σ1 49 3 = (bstN S P wd t).2 → σ1 49 4 = (bstN S P wd t).1 → GX0_find_18 X wd t σ1 Q := by
    intro d
    induction d with
    | zero =>
      intro t ht σ1 f1 b3 b4
      have ht : t = S.1 := by omega
      subst ht
      have e : σ1 1 1 = (S.1 : Int) := by rw [f1 1 1 (by decide) (by decide)]; exact hA0.1
      exact rX0_find_18 fun _ => ⟨by omega, fun _ => K σ1 (fun c k z => by rw [f1 c k (by omega) (by omega)]; exact f0 c k (by omega)) (by rw [f1 49 2 (by decide) (by decide)]; exact a2) (by rw [f1 49 1 (by decide) (by decide)]; exact a1) b3 b4, fun z => by omega⟩
    | succ d ih =>
      intro t ht σ1 f1 b3 b4
      have e : σ1 1 1 = (S.1 : Int) := by rw [f1 1 1 (by decide) (by decide)]; exact hA0.1
      have nx := ih (t + 1) (by omega)
      have oB := fun m hm => bstM_ok (wd := wd) (t := t) hP h8 (by omega) (bstN_ok (wd := wd) hP h8 t (by omega)) m hm
      have inner : ∀ e m : Nat, m + e = 3 → ∀ σ2, frB σ0 σ2 → σ2 49 3 = (bstM S P wd (bstN S P wd t) t m).2 → σ2 49 4 = (bstM S P wd (bstN S P wd t) t m).1 → GX0_find_37 X wd t m σ2 Q := by
        intro e
        induction e with
        | zero =>
          intro m hm σ2 f2 c3 c4
          have hm : m = 3 := by omega
          subst hm
          exact rX0_find_37 fun _ => ⟨by decide, fun _ => nx σ2 f2 c3 c4, fun z => absurd z (by decide)⟩
        | succ e ihe =>
          intro m hm σ2 f2 c3 c4
          have n2 := ihe (m + 1) (by omega)
          have eS : bstM S P wd (bstN S P wd t) t (m + 1) = bstS S P wd (bstM S P wd (bstN S P wd t) t m) t m := rfl
          rw [eS] at n2
          have oBm := oB m (by omega)
          generalize bstM S P wd (bstN S P wd t) t m = B at *
          have try' : GX0_find_59 X wd t m σ2 Q := rX0_find_59 fun _ => s_tryMark (hA0.frame fun c k z => f2 c k (by omega) (by omega)) hS hP (fun w hw' => by rw [f2 11 w (by omega) (by omega)]; exact hp0 w hw') hwd (by rw [f2 49 1 (by decide) (by decide)]; exact a1) c3 c4 oBm (by omega) (by omega) fun σ3 f3 d3 d4 => fun _ => rX0_find_69 fun _ => n2 σ3 (f2.trans f3) d3 d4
          refine rX0_find_37 fun _ => ⟨by omega, fun z => by omega, fun _ => ⟨fun _ => try', fun z => s_isKnown (w := 3) (by omega) (by decide) fun _ => ?_⟩⟩
          cases hb : wd.testBit 3 with
          | true => exact ⟨by decide, fun z2 => absurd z2 (by decide), fun _ => try'⟩
          | false =>
            have sk := bst_skip (t := t) (m := m) oBm hb (by rw [← c4]; exact z)
            rw [sk] at n2
            exact ⟨by decide, fun _ => rX0_find_69 fun _ => n2 σ2 f2 c3 c4, fun z2 => absurd rfl z2⟩
      exact rX0_find_18 fun _ => ⟨by omega, fun z => by omega, fun _ => ⟨by omega, fun z => by omega, fun _ => inner 3 0 rfl σ1 f1 b3 b4⟩⟩
  exact outer S.1 0 (by omega) σ0 (fun _ _ _ _ => rfl) a3 a4
theorem c_worth {X : Cx} {A : AS} {m : Nat} {σ : Sg} {w k : Int} (h : InvC CKK A m σ) (hA : okA A) (hw : inI w) (hk : inI k) : doesC CKK m (opWorth A w k) σ (KX11_worth X w k σ) := by
  intro Q K
  have h8 := hA.1.1
  have hc := h.2.2.2.2.2.2.2.2
  unfold opWorth at K
  refine eX11_worth (rX11_worth_0 fun _ => s_areWords hw fun _ => ?_)
  by_cases c2 : 0 ≤ w ∧ w < 32768
  · rw [if_pos c2] at K
    rw [if_pos c2]
    obtain ⟨wd, rfl⟩ := Int.eq_ofNat_of_zero_le c2.1
    rw [show ((wd : Int).toNat) = wd from rfl] at K
    refine ⟨by decide, fun z => absurd z (by decide), fun _ => s_isWithin hk (by decide) fun _ => ?_⟩
    by_cases c3 : 0 ≤ k ∧ k < 3
    · rw [if_pos c3] at K
      rw [if_pos c3]
      refine ⟨by decide, fun _ => ⟨by omega, fun y => ?_, fun y => ?_⟩, fun z => absurd z (by decide)⟩
      · rw [if_neg y] at K
        have fin : ∀ σ', (∀ c j, ¬ (49 ≤ c ∧ c ≤ 56) → σ' c j = σ c j) → InvC CKK A m σ' → σ' 49 3 = (bstN A.1 A.2.1 wd A.1.1).2 → σ' 49 4 = (bstN A.1 A.2.1 wd A.1.1).1 → GX11_worth_90 X wd k σ' Q := by
          intro σ' f' i' b3 b4
          have KK := K σ' (fun c j z => f' c j (by omega)) i'.more
          refine rX11_worth_90 fun _ => ⟨by omega, fun z => ?_, fun z => ?_⟩
          · rw [if_neg z] at KK; rw [b4]; exact KK
          · rw [if_pos z] at KK; rw [b3]; exact KK
        have mk : GX11_worth_63 X wd k σ Q := by
          refine rX11_worth_63 fun _ => s_findB h.1 hA.1 hA.2.1 h.2.2.2.1 (by omega) fun σ1 f1 b2 b1 b3 b4 => fun _ => ?_
          have e011 : σ1 0 11 = σ 0 11 := f1 0 11 (by decide)
          rw [e011]
          have fr : ∀ c j, ¬ (49 ≤ c ∧ c ≤ 56) → up2 σ1 49 2 (σ 0 11) c j = σ c j := fun c j z => by rw [up2_nc _ _ (by omega)]; exact f1 c j z
          have g1 : (up2 σ1 49 2 (σ 0 11)) 49 1 = (wd : Int) := by rw [up2_nk _ _ (by decide)]; exact b1
          have g3 : (up2 σ1 49 2 (σ 0 11)) 49 3 = (bstN A.1 A.2.1 wd A.1.1).2 := by rw [up2_nk _ _ (by decide)]; exact b3
          have g4 : (up2 σ1 49 2 (σ 0 11)) 49 4 = (bstN A.1 A.2.1 wd A.1.1).1 := by rw [up2_nk _ _ (by decide)]; exact b4
          have g2 : (up2 σ1 49 2 (σ 0 11)) 49 2 = σ 0 11 := up2_s _ _ _ _
          generalize up2 σ1 49 2 (σ 0 11) = σ2 at *
          refine fin σ2 fr (h.cache hA.2.2.1.1 (fun c j z => fr c j (by omega)) ?_) g3 g4
          unfold cacheOK
          rw [g2, fr 42 8 (by decide), fr 0 11 (by decide)]
          refine ⟨hc.1, Int.le_refl _, fun z => ?_, fun _ => ⟨wd, by omega, g1, g3, g4⟩⟩
          obtain ⟨wd', q1, q2, q3⟩ := (show CK1 _ _ σ from hc.2.2.1 z)
          exact ⟨wd', q1, by rw [fr 42 7 (by decide)]; exact q2, q3.frame fun c j hj => fr c j (by omega)⟩
        refine ⟨fun _ => mk, fun z => ⟨by omega, fun z2 => ?_, fun _ => mk⟩⟩
        obtain ⟨wd', q1, q2, q3, q4⟩ := (show CK2 _ _ σ from hc.2.2.2 z)
        have e : wd' = wd := by omega
        subst e
        exact fin σ (fun _ _ _ => rfl) h q3 q4
      · rw [if_pos y] at K
        refine s_waysWith h hA (by omega) fun σ1 f1 i1 t1 => fun _ => ⟨rfl, ?_⟩
        rw [i1.1.1]
        exact s_worthOf (S := A.1) (Or.inl rfl) h8 t1 fun _ => K σ1 (fun c j z => f1 c j (by omega)) i1.more
    · rw [if_neg c3] at K
      rw [if_neg c3]
      exact ⟨by decide, fun z => absurd rfl z, fun _ => K σ (fun _ _ _ => rfl) h.more⟩
  · rw [if_neg c2] at K
    rw [if_neg c2]
    exact ⟨by decide, fun _ => K σ (fun _ _ _ => rfl) h.more, fun z => absurd rfl z⟩
