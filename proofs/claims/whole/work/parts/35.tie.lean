/-! of, price -/
def opOf (A : AS) (t w : Int) : Int × AS := (if isThingN A.1 t then (if 0 ≤ w ∧ w < 7 then A.1.2 w.toNat t.toNat else -3) else -2, A)
theorem c_of {CK : CKt} {X : Cx} {A : AS} {m : Nat} {σ : Sg} {t w : Int} (h : InvC CK A m σ) (ht : inI t) (hw : inI w) : doesC CK m (opOf A t w) σ (KX11_of X t w σ) := by
  intro Q K
  have hat := h.1
  have K := K σ (fun _ _ _ => rfl) h.more
  have h8 := hat.2.1
  unfold opOf at K
  refine eX11_of (rX11_of_0 fun _ => s_has hat.1 h8 ht fun _ => ?_)
  by_cases q : 0 ≤ t ∧ t < (A.1.1 : Int)
  · rw [if_pos q] at K ⊢
    refine ⟨by decide, fun _ => s_isWithin hw (by decide) fun _ => ?_, fun z => absurd z (by decide)⟩
    by_cases q7 : 0 ≤ w ∧ w < 7
    · rw [if_pos q7] at K ⊢
      refine ⟨by decide, fun z => absurd z (by decide), fun _ => ⟨by omega, by omega, ?_⟩⟩
      rw [hat.2.2 w.toNat t.toNat (by omega) (by omega)]
      exact K
    · rw [if_neg q7] at K ⊢
      exact ⟨by decide, fun _ => K, fun z => absurd rfl z⟩
  · rw [if_neg q] at K ⊢
    exact ⟨by decide, fun z => absurd rfl z, fun _ => K⟩
theorem m_of {X : Cx} {A : AS} {σ : Sg} {t w : Int} (h : InvM A σ) (hA : okA A) (ht : inI t) (hw : inI w) : doesM (opOf A t w) σ (KX12_of X t w σ) := by
  intro Q K
  have hat := h.1
  have K := K σ (fun _ _ _ => rfl) h
  have h8 := hat.2.1
  obtain ⟨⟨-, hoR, hB, -⟩, -⟩ := hA
  unfold opOf at K
  refine eX12_of (rX12_of_0 fun _ => m_isThing hat.1 h8 ht fun _ => ?_)
  by_cases q : 0 ≤ t ∧ t < (A.1.1 : Int)
  · rw [if_pos q] at K ⊢
    obtain ⟨i, rfl⟩ : ∃ i : Nat, t = i := ⟨t.toNat, by omega⟩
    rw [show ((i : Int).toNat) = i from rfl] at *
    obtain ⟨r0, r1, r2, r3, r4, r6⟩ := hat.2.2 i (by omega)
    refine ⟨by decide, fun _ => ⟨hw, fun z => ⟨by omega, ?_⟩, fun z => ⟨by omega, ?_⟩, fun z => ⟨by omega, ?_⟩, fun z => ⟨by omega, ?_⟩, fun z => ⟨by omega, ?_⟩, fun z => m_besides hat hoR (by omega) fun _ => ?_, fun z => ⟨by omega, ?_⟩, fun z => ?_⟩, fun z => absurd z (by decide)⟩
    · subst z; rw [r0]; exact K
    · subst z; rw [r1]; exact K
    · subst z; rw [r2]; exact K
    · subst z; rw [r3]; exact K
    · subst z; rw [r4]; exact K
    · subst z; rw [← (hB i (by omega)).1]; exact K
    · subst z; rw [r6]; exact K
    · rw [if_neg (by omega)] at K; exact K
  · rw [if_neg q] at K ⊢
    exact ⟨by decide, fun z => absurd rfl z, fun _ => K⟩
def opPrice (A : AS) (w v : Int) : Int × AS := if (0 ≤ w ∧ w < 15) ∧ 1 ≤ v ∧ v ≤ 9 then (A.2.1 w.toNat, (A.1, fun u => if u = w.toNat then v else A.2.1 u, A.2.2)) else (-3, A)
theorem opPrice_ok {A : AS} {w v : Int} (h : okA A) : okA (opPrice A w v).2 := by
  unfold opPrice
  split
  · rename_i q
    obtain ⟨a, b, d⟩ := h
    refine ⟨a, fun u hu => ?_, d⟩
    show 1 ≤ (if u = w.toNat then v else A.2.1 u) ∧ (if u = w.toNat then v else A.2.1 u) ≤ 9
    split
    · omega
    · exact b u hu
  · exact h
theorem c_price {CK : CKt} {X : Cx} {A : AS} {m : Nat} {σ : Sg} {w v : Int} (h : InvC CK A m σ) (hm : m < 1000) (hw : inI w) (hv : inI v) : doesC CK m (opPrice A w v) σ (KX11_price X w v σ) := by
  intro Q K
  unfold opPrice at K
  obtain ⟨i1, i2, i3, i4, i5, i6, i7, i8, i9⟩ := id h
  have out : ¬ ((0 ≤ w ∧ w < 15) ∧ 1 ≤ v ∧ v ≤ 9) → Q (-3) σ := fun z => by
    rw [if_neg z] at K; exact K σ (fun _ _ _ => rfl) h.more
  refine eX11_price (rX11_price_0 fun _ => s_isWithin hw (by decide) fun _ => ?_)
  by_cases q : 0 ≤ w ∧ w < 15
  · rw [if_pos q]
    refine ⟨by decide, fun z => absurd z (by decide), fun _ => ⟨hv, fun z => out (by omega), fun z1 => ⟨hv, fun z9 => ?_, fun z => out (by omega)⟩⟩⟩
    rw [if_pos ⟨q, z1, z9⟩] at K
    refine ⟨q, q, hv, by omega, ?_⟩
    rw [i4 w.toNat (by omega)]
    have hf : ∀ c k, c ≠ 11 → ¬ (c = 0 ∧ k = 11) → up2 (up2 σ 11 w.toNat v) 0 11 (σ 0 11 + 1) c k = σ c k := fun c k a b => by rw [up2_a _ _ b, up2_nc _ _ a]
    refine K _ (fun c k z => hf c k (by omega) (by omega)) ⟨i1.frame' fun c k z => hf c k (by omega) (by omega), fun t a b => ?_, ?_, fun u hu => ?_, ⟨by rw [hf 12 2 (by omega) (by omega)]; exact i5.1, i5.2.1, fun i hi => by rw [hf 13 i (by omega) (by omega)]; exact i5.2.2 i hi⟩, ⟨by rw [hf 0 10 (by omega) (by omega)]; exact i6.1, fun k hk => (i6.2 k hk).frame fun c j hc => hf c j (by omega) (by omega)⟩, ⟨by rw [hf 67 1 (by omega) (by omega)]; exact i7.1, fun i hi => by rw [hf 68 i (by omega) (by omega)]; exact i7.2 i hi⟩, ?_, cache_off i9 (hf 42 8 (by omega) (by omega)) (hf 49 2 (by omega) (by omega)) (up2_s _ _ _ _)⟩
    · rw [hf 6 t (by omega) (by omega), hf 9 t (by omega) (by omega), hf 10 t (by omega) (by omega)]; exact i2 t a b
    · rw [hf 1 2 (by omega) (by omega)]; exact i3
    · rw [up2_nc _ _ (by decide)]
      show _ = (if u = w.toNat then v else A.2.1 u)
      by_cases y : u = w.toNat
      · rw [if_pos y, y, up2_s]
      · rw [if_neg y, up2_nk _ _ y]; exact i4 u hu
    · rw [up2_s]; omega
  · rw [if_neg q]
    exact ⟨by decide, fun _ => out (fun z => q z.1), fun z => absurd rfl z⟩
theorem m_price {X : Cx} {A : AS} {σ : Sg} {w v : Int} (h : InvM A σ) (hw : inI w) (hv : inI v) : doesM (opPrice A w v) σ (KX12_price X w v σ) := by
  intro Q K
  unfold opPrice at K
  obtain ⟨i1, i2, i3, i4, i5, i6⟩ := id h
  have out : ¬ ((0 ≤ w ∧ w < 15) ∧ 1 ≤ v ∧ v ≤ 9) → Q (-3) σ := fun z => by
    rw [if_neg z] at K; exact K σ (fun _ _ _ => rfl) h
  refine eX12_price (rX12_price_0 fun _ => m_in hw (by decide) (by decide) fun _ => ?_)
  by_cases q : 0 ≤ w ∧ w ≤ 14
  · rw [if_pos q]
    refine ⟨by decide, fun z => absurd z (by decide), fun _ => m_in hv (by decide) (by decide) fun _ => ?_⟩
    by_cases q9 : 1 ≤ v ∧ v ≤ 9
    · rw [if_pos q9]
      rw [if_pos ⟨by omega, q9⟩] at K
      refine ⟨by decide, fun _ => ⟨by omega, by omega, hv, ?_⟩, fun z => absurd z (by decide)⟩
      rw [i3 w.toNat (by omega)]
      have hf : ∀ c k, c ≠ 76 → up2 σ 76 w.toNat v c k = σ c k := fun c k a => up2_nc _ _ a
      refine K _ (fun c k z => hf c k (by omega)) ⟨i1.frame fun c k z => hf c k (by omega), fun t a b => by rw [hf 73 t (by decide), hf 75 t (by decide)]; exact i2 t a b, fun u hu => ?_, i4.frame fun c k z => hf c k (by omega), ⟨by rw [hf 69 20 (by decide)]; exact i5.1, fun k hk => ?_⟩, ⟨by rw [hf 69 39 (by decide)]; exact i6.1, fun i hi => by rw [hf 98 i (by decide)]; exact i6.2 i hi⟩⟩
      · show _ = (if u = w.toNat then v else A.2.1 u)
        by_cases y : u = w.toNat
        · rw [if_pos y, y, up2_s]
        · rw [if_neg y, up2_nk _ _ y]; exact i3 u hu
      · rw [hf 81 k (by decide)]
        refine ⟨(i5.2 k hk).1, fun i hi => ?_⟩
        rw [hf 82 _ (by decide), hf 83 _ (by decide)]
        exact (i5.2 k hk).2 i hi
    · rw [if_neg q9]
      exact ⟨by decide, fun z => absurd rfl z, fun _ => out (fun z => q9 z.2)⟩
  · rw [if_neg q]
    exact ⟨by decide, fun _ => out (by omega), fun z => absurd rfl z⟩
/-! tie -/
theorem pc8_or : ∀ x : Nat, x < 256 → ∀ b : Nat, b < 8 → x.testBit b = false → pc8 (x ||| 2 ^ b) = pc8 x + 1 := by decide +kernel
def tieS (S : Sc) (a b : Nat) : Sc := (S.1, fun r t => if r = 6 ∧ t = a then (((S.2 6 a).toNat ||| 2 ^ b : Nat) : Int) else if r = 7 ∧ t = b then (((S.2 7 b).toNat ||| 2 ^ a : Nat) : Int) else S.2 r t)
def opTie (A : AS) (a b : Int) : Int × AS :=
  if isThingN A.1 a ∧ isThingN A.1 b ∧ a ≠ b then (if (A.1.2 6 a.toNat).toNat.testBit b.toNat = true then (-4, A) else (((tsum A.1 + 1 : Nat) : Int), (tieS A.1 a.toNat b.toNat, A.2))) else (-2, A)
theorem tieS_row {S : Sc} {a b r t : Nat} (h : ¬ (r = 6 ∧ t = a)) (h' : ¬ (r = 7 ∧ t = b)) : (tieS S a b).2 r t = S.2 r t := by
  show (if r = 6 ∧ t = a then _ else if r = 7 ∧ t = b then _ else S.2 r t) = _
  rw [if_neg h, if_neg h']
theorem tieS_6 {S : Sc} {a b : Nat} : (tieS S a b).2 6 a = (((S.2 6 a).toNat ||| 2 ^ b : Nat) : Int) := if_pos ⟨rfl, rfl⟩
theorem tieS_7 {S : Sc} {a b : Nat} : (tieS S a b).2 7 b = (((S.2 7 b).toNat ||| 2 ^ a : Nat) : Int) := by
  simp [tieS]
theorem or_lt8 {x b n : Nat} (hx : x < 2 ^ n) (hb : b < n) : x ||| 2 ^ b < 2 ^ n := Nat.or_lt_two_pow hx (Nat.pow_lt_pow_right (by decide) hb)
theorem tieS_ok {S : Sc} {a b : Nat} (h : okS S) (ha : a < S.1) (hb : b < S.1) : okS (tieS S a b) := by
  obtain ⟨h1, h2, h3, h4, h5⟩ := h
  have p8 := pow_lt8 h1
  refine ⟨h1, fun t ht => ?_, fun t ht => ⟨?_, ?_⟩, fun x y hx hy e => ?_, fun t ht => ?_⟩
  · have q := h2 t ht
    rw [tieS_row (r := 0) (by omega) (by omega), tieS_row (r := 1) (by omega) (by omega), tieS_row (r := 2) (by omega) (by omega), tieS_row (r := 3) (by omega) (by omega), tieS_row (r := 4) (by omega) (by omega), tieS_row (r := 5) (by omega) (by omega)]
    refine ⟨q.1, q.2.1, q.2.2.1, q.2.2.2.1, q.2.2.2.2.1, q.2.2.2.2.2.1, ?_, ?_⟩
    · by_cases z : t = a
      · rw [z, tieS_6]
        have := or_lt8 (x := (S.2 6 a).toNat) (b := b) (n := 8) (by have := h2 a ha; omega) (by omega)
        omega
      · rw [tieS_row (by omega) (by omega)]; exact q.2.2.2.2.2.2.1
    · by_cases z : t = b
      · rw [z, tieS_7]
        have := or_lt8 (x := (S.2 7 b).toNat) (b := a) (n := 8) (by have := h2 b hb; omega) (by omega)
        omega
      · rw [tieS_row (by omega) (by omega)]; exact q.2.2.2.2.2.2.2
  · rw [tieS_row (by omega) (by omega), (h3 t ht).1]
    congr 1
  · by_cases z : t = b
    · rw [z, tieS_7, (h3 b hb).2]
      congr 1
      apply Nat.eq_of_testBit_eq
      intro i
      show (frS S b ||| 2 ^ a).testBit i = (bsN S.1 _).testBit i
      rw [Nat.testBit_or, Nat.testBit_two_pow]
      unfold frS
      rw [bsN_bit, bsN_bit]
      by_cases q : i = a
      · subst q
        rw [tieS_6]
        have : (((S.2 6 i).toNat ||| 2 ^ b : Nat) : Int).toNat.testBit b = true := by
          show ((S.2 6 i).toNat ||| 2 ^ b).testBit b = true
          rw [Nat.testBit_or, Nat.testBit_two_pow_self]; simp
        rw [this]; simp [ha]
      · rw [tieS_row (by omega) (by omega), decide_eq_false (show ¬ a = i by omega)]; simp
    · rw [tieS_row (by omega) (by omega), (h3 t ht).2]
      congr 1
      refine bsN_congr _ fun o ho => ?_
      by_cases q : o = a
      · subst q
        rw [tieS_6]
        show _ = ((S.2 6 o).toNat ||| 2 ^ b).testBit t
        rw [Nat.testBit_or, Nat.testBit_two_pow, decide_eq_false (show ¬ b = t by omega)]; simp
      · rw [tieS_row (by omega) (by omega)]
  · rw [tieS_row (by omega) (by omega), tieS_row (by omega) (by omega)] at e
    exact h4 x y hx hy e
  · show _ < ((2 ^ S.1 : Nat) : Int)
    by_cases z : t = a
    · rw [z, tieS_6]
      have := or_lt8 (x := (S.2 6 a).toNat) (b := b) (n := S.1) (by have := h5 a ha; have := h2 a ha; omega) hb
      omega
    · rw [tieS_row (by omega) (by omega)]; exact h5 t ht
theorem opTie_ok {A : AS} {a b : Int} (h : okA A) : okA (opTie A a b).2 := by
  unfold opTie
  split
  · split
    · exact h
    · rename_i q _
      obtain ⟨z, c, d, e⟩ := h
      exact ⟨tieS_ok z (by omega) (by omega), c, d, e⟩
  · exact h
theorem tsF_one {f g : Nat → Int} {a : Nat} (h : ∀ t, t ≠ a → g t = f t) (hp : pc8 (g a).toNat = pc8 (f a).toNat + 1) : ∀ n, a < n → tsF g n = tsF f n + 1
  | 0, h0 => absurd h0 (by omega)
  | n + 1, h1 => by
    show tsF g n + _ = tsF f n + _ + 1
    by_cases q : n = a
    · subst q
      rw [tsF_congr n (f := g) (g := f) fun t ht => h t (by omega), hp]; omega
    · rw [tsF_one h hp n (by omega), h n q]; omega
theorem tieS_tsum {S : Sc} {a b : Nat} (h : okS S) (ha : a < S.1) (hb : b < S.1) (hbit : (S.2 6 a).toNat.testBit b = false) : tsum (tieS S a b) = tsum S + 1 := by
  refine tsF_one (a := a) (fun t ht => tieS_row (by omega) (by omega)) ?_ S.1 ha
  rw [tieS_6]
  exact pc8_or _ (by have := h.2.1 a ha; omega) _ (by have := h.1; omega) hbit
