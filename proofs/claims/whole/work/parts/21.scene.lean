/-! THE SCENE: what its methods answer -/
theorem bs_in {p : Nat → Bool} {i : Nat} (h : i < 9) (hp : p i = true) : zor (bsN i p : Nat) (zshl 1 i) = ((bsN (i + 1) p : Nat) : Int) := by
  have h1 := bsN_lt p i
  have h2 : 2 ^ i ≤ 2 ^ 8 := Nat.pow_le_pow_right (by decide) (by omega)
  rw [zshl_one (by omega), zor_nat (by omega) (by omega), bsN_or]
  show _ = ((bsN i p + (if p i then 2 ^ i else 0) : Nat) : Int)
  rw [if_pos hp]
theorem bs_out {p : Nat → Bool} {i : Nat} (hp : ¬ p i = true) : bsN (i + 1) p = bsN i p := by
  show bsN i p + (if p i then 2 ^ i else 0) = _
  rw [if_neg hp]; rfl
theorem s_isWithin {X : Cx} {σ : Sg} {Q : Int → Sg → Prop} {v b : Int} (hv : inI v) (hb : inI b) (k : Q (if 0 ≤ v ∧ v < b then 1 else 0) σ) : KX11_isWithin X v b σ Q := by
  refine eX11_isWithin (rX11_isWithin_0 fun _ => ⟨hv, fun h => ?_, fun h => ⟨hv, hb, fun h2 => ?_, fun h2 => ?_⟩⟩)
  · rw [if_neg (by omega)] at k; exact k
  · rw [if_neg (by omega)] at k; exact k
  · rw [if_pos ⟨h, h2⟩] at k; exact k
theorem s_has {X : Cx} {σ : Sg} {Q : Int → Sg → Prop} {v : Int} {n : Nat} (hn : σ 1 1 = (n : Int)) (h8 : n ≤ 8) (hv : inI v) (k : Q (if 0 ≤ v ∧ v < n then 1 else 0) σ) : KX5_has X v σ Q := by
  refine eX5_has (rX5_has_0 fun _ => s_isWithin hv (by omega) fun _ => ⟨?_, by rw [hn]; exact k⟩)
  split
  · exact Or.inr rfl
  · exact Or.inl rfl
theorem s_thoseWith {X : Cx} {σ : Sg} {Q : Int → Sg → Prop} {n r : Nat} {v : Int} (hn : σ 1 1 = (n : Int)) (h8 : n ≤ 8) (hr : r < 8) (hv : inI v) (k : Q ((bsN n (fun t => decide (σ (3 + r) t = v)) : Nat) : Int) σ) : KX5_thoseWith X r v σ Q := by
  refine eX5_thoseWith (rX5_thoseWith_0 fun _ => ?_)
  have loop : ∀ d i : Nat, i + d = n → GX5_thoseWith_5 X r v ((bsN i (fun t => decide (σ (3 + r) t = v)) : Nat) : Int) i σ Q := by
    intro d
    induction d with
    | zero =>
      intro i hi
      have : i = n := by omega
      subst this
      exact rX5_thoseWith_5 fun _ => ⟨by omega, fun _ => k, fun h => by omega⟩
    | succ d ih =>
      intro i hi
      refine rX5_thoseWith_5 fun _ => ⟨by omega, fun h => by omega, fun _ => ⟨by omega, fun h => by omega, fun _ => ⟨by omega, by omega, hv, fun h => ?_, fun h => ?_⟩⟩⟩
      · have e := bs_out (p := fun t => decide (σ (3 + r) t = v)) (i := i) (by simpa using h)
        have := ih (i + 1) (by omega)
        rw [e] at this
        exact rX5_thoseWith_41 fun _ => this
      · rw [bs_in (by omega) (by simpa using h)]
        exact rX5_thoseWith_41 fun _ => ih (i + 1) (by omega)
  exact loop n 0 (by omega)
abbrev Sc : Type := Nat × (Nat → Nat → Int)
/-- the class's cells hold the scene S: rows kind, colour, size, marks, place, beside, ties to, ties from -/
def atC (S : Sc) (σ : Sg) : Prop := σ 1 1 = (S.1 : Int) ∧ S.1 ≤ 8 ∧ ∀ r t, r < 8 → t < S.1 → σ (3 + r) t = S.2 r t
def okR (S : Sc) : Prop := ∀ t, t < S.1 → (0 ≤ S.2 0 t ∧ S.2 0 t ≤ 3) ∧ (0 ≤ S.2 1 t ∧ S.2 1 t ≤ 3) ∧ (1 ≤ S.2 2 t ∧ S.2 2 t ≤ 9) ∧ (0 ≤ S.2 3 t ∧ S.2 3 t ≤ 7) ∧ (0 ≤ S.2 4 t ∧ S.2 4 t ≤ 15) ∧ (0 ≤ S.2 5 t ∧ S.2 5 t < 256) ∧ (0 ≤ S.2 6 t ∧ S.2 6 t < 256) ∧ (0 ≤ S.2 7 t ∧ S.2 7 t < 256)
def F_all (S : Sc) : Nat := 2 ^ S.1 - 1
def F_with (S : Sc) (r : Nat) (v : Int) : Nat := bsN S.1 (fun t => decide (S.2 r t = v))
def F_mark (S : Sc) (m : Nat) : Nat := bsN S.1 (fun t => (S.2 3 t).toNat.testBit m)
def F_link (S : Sc) (r s : Nat) : Nat := bsN S.1 (fun t => decide ((S.2 r t).toNat &&& s ≠ 0))
def F_most (S : Sc) (s : Nat) : Nat := bsN S.1 (fun t => s.testBit t && (List.range S.1).all (fun u => !s.testBit u || decide (S.2 2 u ≤ S.2 2 t)))
def F_least (S : Sc) (s : Nat) : Nat := bsN S.1 (fun t => s.testBit t && (List.range S.1).all (fun u => !s.testBit u || decide (S.2 2 t ≤ S.2 2 u)))
def F_left (S : Sc) (s : Nat) : Nat := bsN S.1 (fun t => s.testBit t && (List.range S.1).all (fun u => !s.testBit u || decide (S.2 4 t ≤ S.2 4 u)))
def F_only (s : Nat) : Nat := if pc8 s = 1 then s else 0
def F_named (S : Sc) (c : Nat) : Nat := if c / 8 = 0 then F_all S else if c / 8 = 1 then F_with S 0 (c % 8 : Nat) else if c / 8 = 2 then F_with S 1 (c % 8 : Nat) else F_mark S (c % 8)
def F_turn (S : Sc) (w s : Nat) : Nat := if w = 4 then ndf (F_all S) s else if w = 8 then F_link S 5 s else if w = 9 then F_link S 6 s else if w = 10 then F_most S s else if w = 11 then F_least S s else if w = 12 then F_left S s else if w = 13 then F_left S (ndf s (F_left S s)) else F_only s
def F_join (w a b : Nat) : Nat := if w = 5 then a &&& b else if w = 6 then a ||| b else ndf a b
theorem rng_at (S : Sc) {p : Nat → Bool} : (List.range S.1).all p = true ↔ ∀ u, u < S.1 → p u = true := by
  rw [List.all_eq_true]
  exact ⟨fun h u hu => h u (List.mem_range.mpr hu), fun h u hu => h u (List.mem_range.mp hu)⟩
theorem s_all {X : Cx} {σ : Sg} {Q : Int → Sg → Prop} {S : Sc} (h : atC S σ) (k : Q (F_all S : Nat) σ) : KX5_all X σ Q := by
  refine eX5_all (rX5_all_0 fun _ => ?_)
  have h8 := h.2.1
  rw [h.1, zshl_one (by omega)]
  have e : ((2 ^ S.1 : Nat) : Int) - 1 = ((F_all S : Nat) : Int) := by
    unfold F_all
    have := Nat.two_pow_pos S.1
    omega
  rw [e]; exact k
theorem s_with {X : Cx} {σ : Sg} {Q : Int → Sg → Prop} {S : Sc} {r : Nat} {v : Int} (h : atC S σ) (hr : r < 8) (hv : inI v) (k : Q (F_with S r v : Nat) σ) : KX5_thoseWith X r v σ Q := by
  refine s_thoseWith h.1 h.2.1 hr hv ?_
  rw [bsN_congr (q := fun t => decide (S.2 r t = v)) _ (fun t ht => by rw [h.2.2 r t hr ht])]
  exact k
theorem zshl_0 {i : Nat} (h : i < 31) : zshl 0 i = 0 := by
  have key : ∀ i : Nat, i < 31 → zshl 0 i = 0 := by decide +kernel
  exact key i h
theorem zor_0 {a : Nat} (ha : a < 2 ^ 31) : zor a 0 = (a : Int) := by
  have := zor_nat (a := a) (b := 0) ha (by decide)
  rw [Nat.or_zero] at this
  exact this
theorem s_marked {X : Cx} {σ : Sg} {Q : Int → Sg → Prop} {S : Sc} {m : Nat} (h : atC S σ) (ho : okR S) (hm : m < 8) (k : Q (F_mark S m : Nat) σ) : KX5_thoseMarked X m σ Q := by
  obtain ⟨hn, h8, hrow⟩ := h
  refine eX5_thoseMarked (rX5_thoseMarked_0 fun _ => ?_)
  have loop : ∀ d i : Nat, i + d = S.1 → GX5_thoseMarked_4 X m ((bsN i (fun t => (S.2 3 t).toNat.testBit m) : Nat) : Int) i σ Q := by
    intro d
    induction d with
    | zero =>
      intro i hi
      have : i = S.1 := by omega
      subst this
      exact rX5_thoseMarked_4 fun _ => ⟨by omega, fun _ => k, fun h => by omega⟩
    | succ d ih =>
      intro i hi
      refine rX5_thoseMarked_4 fun _ => ⟨by omega, fun h => by omega, fun _ => ⟨by omega, fun h => by omega, fun _ => ⟨by omega, ?_⟩⟩⟩
      have e : σ 6 ((i : Int).toNat) = ((S.2 3 i).toNat : Int) := by
        show σ (3 + 3) i = _
        rw [hrow 3 i (by decide) (by omega)]
        have := (ho i (by omega)).2.2.2.1
        omega
      have h7 := (ho i (by omega)).2.2.2.1
      have hb := bsN_lt (fun t => (S.2 3 t).toNat.testBit m) i
      have h2 : 2 ^ i ≤ 2 ^ 8 := Nat.pow_le_pow_right (by decide) (by omega)
      rw [e, bit_iff (by omega) (by omega)]
      by_cases hp : (S.2 3 i).toNat.testBit m = true
      · rw [if_pos hp, bs_in (p := fun t => (S.2 3 t).toNat.testBit m) (by omega) hp]
        exact ih (i + 1) (by omega)
      · rw [if_neg hp, zshl_0 (by omega), zor_0 (by omega), ← bs_out (p := fun t => (S.2 3 t).toNat.testBit m) hp]
        exact ih (i + 1) (by omega)
  exact loop S.1 0 (by omega)
theorem and7 (c : Nat) : c &&& 7 = c % 8 := Nat.and_two_pow_sub_one_eq_mod c 3
theorem shr3 {c : Nat} (h : c < 2 ^ 31) : zshr (c : Int) 3 = ((c / 8 : Nat) : Int) := by
  rw [show (3 : Int) = ((3 : Nat) : Int) from rfl, zshr_nat h (by decide), Nat.shiftRight_eq_div_pow]
theorem and7z {c : Nat} (h : c < 2 ^ 31) : zand (c : Int) 7 = ((c % 8 : Nat) : Int) := by
  rw [show (7 : Int) = ((7 : Nat) : Int) from rfl, zand_nat h (by decide), and7]
theorem s_named {X : Cx} {σ : Sg} {Q : Int → Sg → Prop} {S : Sc} {c : Nat} (h : atC S σ) (ho : okR S) (hc : c < 32) (k : Q (F_named S c : Nat) σ) : KX5_named X c σ Q := by
  unfold F_named at k
  refine eX5_named (rX5_named_0 fun _ => ?_)
  rw [shr3 (by omega), and7z (by omega)]
  refine ⟨fun q => ?_, fun q => ?_, fun q => ?_, fun q => ?_⟩
  · rw [if_pos (by omega)] at k
    exact s_all h fun _ => k
  · rw [if_neg (by omega), if_pos (by omega)] at k
    exact s_with (r := 0) h (by decide) (by omega) fun _ => k
  · rw [if_neg (by omega), if_neg (by omega), if_pos (by omega)] at k
    exact s_with (r := 1) h (by decide) (by omega) fun _ => k
  · rw [if_neg (by omega), if_neg (by omega), if_neg (by omega)] at k
    exact s_marked h ho (by omega) fun _ => k
theorem s_linked {X : Cx} {σ : Sg} {Q : Int → Sg → Prop} {S : Sc} {r s : Nat} (h : atC S σ) (ho : okR S) (hr : 5 ≤ r ∧ r < 8) (hs : s < 256) (k : Q (F_link S r s : Nat) σ) : KX5_thoseLinked X r s σ Q := by
  obtain ⟨hn, h8, hrow⟩ := h
  refine eX5_thoseLinked (rX5_thoseLinked_0 fun _ => ?_)
  have loop : ∀ d i : Nat, i + d = S.1 → GX5_thoseLinked_5 X r s ((bsN i (fun t => decide ((S.2 r t).toNat &&& s ≠ 0)) : Nat) : Int) i σ Q := by
    intro d
    induction d with
    | zero =>
      intro i hi
      have : i = S.1 := by omega
      subst this
      exact rX5_thoseLinked_5 fun _ => ⟨by omega, fun _ => k, fun h => by omega⟩
    | succ d ih =>
      intro i hi
      have hb : 0 ≤ S.2 r i ∧ S.2 r i < 256 := by
        have := ho i (by omega)
        rcases (show r = 5 ∨ r = 6 ∨ r = 7 by omega) with rfl | rfl | rfl
        · exact this.2.2.2.2.2.1
        · exact this.2.2.2.2.2.2.1
        · exact this.2.2.2.2.2.2.2
      have e : zand (σ (3 + (r : Int).toNat) ((i : Int).toNat)) s = (((S.2 r i).toNat &&& s : Nat) : Int) := by
        show zand (σ (3 + r) i) s = _
        rw [hrow r i (by omega) (by omega)]
        have : S.2 r i = ((S.2 r i).toNat : Int) := by omega
        rw [this, Int.toNat_natCast]
        exact zand_nat (by omega) (by omega)
      refine rX5_thoseLinked_5 fun _ => ⟨by omega, fun h => by omega, fun _ => ⟨by omega, fun h => by omega, fun _ => ⟨by omega, by omega, ?_⟩⟩⟩
      rw [e]
      refine ⟨fun h => ?_, fun h => ?_⟩
      · have e := bs_out (p := fun t => decide ((S.2 r t).toNat &&& s ≠ 0)) (i := i) (by simp; omega)
        have := ih (i + 1) (by omega)
        rw [e] at this
        exact rX5_thoseLinked_42 fun _ => this
      · rw [bs_in (by omega) (by simp; omega)]
        exact rX5_thoseLinked_42 fun _ => ih (i + 1) (by omega)
  exact loop S.1 0 (by omega)
theorem s_greatest {X : Cx} {σ : Sg} {Q : Int → Sg → Prop} {S : Sc} {s : Nat} (h : atC S σ) (ho : okR S) (hs : s < 256) (k : ∀ g : Int, (∀ t, t < S.1 → s.testBit t = true → S.2 2 t ≤ g) → (g = 0 ∨ ∃ t, t < S.1 ∧ s.testBit t = true ∧ S.2 2 t = g) → Q g σ) : KX5_greatestSize X s σ Q := by
  obtain ⟨hn, h8, hrow⟩ := h
  refine eX5_greatestSize (rX5_greatestSize_0 fun _ => ?_)
  have loop : ∀ d i : Nat, i + d = S.1 → ∀ g : Int, (∀ t, t < i → s.testBit t = true → S.2 2 t ≤ g) → (g = 0 ∨ ∃ t, t < S.1 ∧ s.testBit t = true ∧ S.2 2 t = g) → GX5_greatestSize_4 X s g i σ Q := by
    intro d
    induction d with
    | zero =>
      intro i hi g h1 h2
      have : i = S.1 := by omega
      subst this
      exact rX5_greatestSize_4 fun _ => ⟨by omega, fun _ => k g h1 h2, fun h => by omega⟩
    | succ d ih =>
      intro i hi g h1 h2
      have hg : 0 ≤ g ∧ g ≤ 9 := by
        rcases h2 with h2 | ⟨t, ht, -, e⟩
        · omega
        · have := (ho t ht).2.2.1; omega
      have e : σ 5 ((i : Int).toNat) = S.2 2 i := hrow 2 i (by decide) (by omega)
      refine rX5_greatestSize_4 fun _ => ⟨by omega, fun h => by omega, fun _ => ⟨by omega, fun h => by omega, fun _ => ?_⟩⟩
      rw [bit_is (by omega) (by omega), e]
      refine ⟨fun h => rX5_greatestSize_40 fun _ => ih (i + 1) (by omega) g (fun t ht hb => ?_) h2, fun h => ⟨by omega, by omega, rX5_greatestSize_40 fun _ => ih (i + 1) (by omega) _ (fun t ht hb => ?_) ?_⟩⟩
      · rcases Nat.lt_succ_iff_lt_or_eq.mp ht with q | q
        · exact h1 t q hb
        · subst q; exact absurd hb h
      · rcases Nat.lt_succ_iff_lt_or_eq.mp ht with q | q
        · have := h1 t q hb; split <;> omega
        · subst q; split <;> omega
      · split
        · exact Or.inr ⟨i, by omega, h, rfl⟩
        · exact h2
  exact loop S.1 0 (by omega) 0 (fun t ht => by omega) (Or.inl rfl)
theorem s_leastS {X : Cx} {σ : Sg} {Q : Int → Sg → Prop} {S : Sc} {s : Nat} (h : atC S σ) (ho : okR S) (hs : s < 256) (k : ∀ g : Int, (∀ t, t < S.1 → s.testBit t = true → g ≤ S.2 2 t) → (g = 9 ∨ ∃ t, t < S.1 ∧ s.testBit t = true ∧ S.2 2 t = g) → Q g σ) : KX5_leastSize X s σ Q := by
  obtain ⟨hn, h8, hrow⟩ := h
  refine eX5_leastSize (rX5_leastSize_0 fun _ => ?_)
  have loop : ∀ d i : Nat, i + d = S.1 → ∀ g : Int, (∀ t, t < i → s.testBit t = true → g ≤ S.2 2 t) → (g = 9 ∨ ∃ t, t < S.1 ∧ s.testBit t = true ∧ S.2 2 t = g) → GX5_leastSize_8 X s g i σ Q := by
    intro d
    induction d with
    | zero =>
      intro i hi g h1 h2
      have : i = S.1 := by omega
      subst this
      exact rX5_leastSize_8 fun _ => ⟨by omega, fun _ => k g h1 h2, fun h => by omega⟩
    | succ d ih =>
      intro i hi g h1 h2
      have hg : 0 ≤ g ∧ g ≤ 9 := by
        rcases h2 with h2 | ⟨t, ht, -, e⟩
        · omega
        · have := (ho t ht).2.2.1; omega
      have e : σ 5 ((i : Int).toNat) = S.2 2 i := hrow 2 i (by decide) (by omega)
      refine rX5_leastSize_8 fun _ => ⟨by omega, fun h => by omega, fun _ => ⟨by omega, fun h => by omega, fun _ => ?_⟩⟩
      rw [bit_is (by omega) (by omega), e]
      refine ⟨fun h => rX5_leastSize_44 fun _ => ih (i + 1) (by omega) g (fun t ht hb => ?_) h2, fun h => ⟨by omega, by omega, rX5_leastSize_44 fun _ => ih (i + 1) (by omega) _ (fun t ht hb => ?_) ?_⟩⟩
      · rcases Nat.lt_succ_iff_lt_or_eq.mp ht with q | q
        · exact h1 t q hb
        · subst q; exact absurd hb h
      · rcases Nat.lt_succ_iff_lt_or_eq.mp ht with q | q
        · have := h1 t q hb; split <;> omega
        · subst q; split <;> omega
      · split
        · exact Or.inr ⟨i, by omega, h, rfl⟩
        · exact h2
  exact loop S.1 0 (by omega) 9 (fun t ht => by omega) (Or.inl rfl)
theorem s_ofSize {X : Cx} {σ : Sg} {Q : Int → Sg → Prop} {S : Sc} {s : Nat} {g : Int} (h : atC S σ) (hg : inI g) (hs : s < 256) (k : Q ((s &&& F_with S 2 g : Nat) : Int) σ) : KX5_ofSize X s g σ Q := by
  refine eX5_ofSize (rX5_ofSize_0 fun _ => s_with (r := 2) h (by decide) hg fun _ => ?_)
  have hb : F_with S 2 g < 256 := bsN_256 h.2.1 _
  rw [zand_nat (by omega) (by omega)]
  exact k
theorem most_eq {S : Sc} {s : Nat} {g : Int} (ho : okR S) (h1 : ∀ t, t < S.1 → s.testBit t = true → S.2 2 t ≤ g) (h2 : g = 0 ∨ ∃ t, t < S.1 ∧ s.testBit t = true ∧ S.2 2 t = g) : s &&& F_with S 2 g = F_most S s := by
  apply Nat.eq_of_testBit_eq
  intro i
  unfold F_with F_most
  rw [Nat.testBit_and, bsN_bit, bsN_bit]
  by_cases hi : i < S.1
  · by_cases hb : s.testBit i = true
    · simp only [hi, hb, decide_true, Bool.true_and]
      rw [Bool.eq_iff_iff, rng_at, decide_eq_true_iff]
      constructor
      · intro e u hu
        by_cases hbu : s.testBit u = true
        · have := h1 u hu hbu; simp [hbu]; omega
        · simp [hbu]
      · intro h
        have a := h1 i hi hb
        rcases h2 with rfl | ⟨t, ht, hbt, e⟩
        · have := (ho i hi).2.2.1; omega
        · have b := h t ht; simp [hbt] at b; omega
    · simp [hb]
  · simp [hi]
theorem least_eq {S : Sc} {s : Nat} {g : Int} (ho : okR S) (h1 : ∀ t, t < S.1 → s.testBit t = true → g ≤ S.2 2 t) (h2 : g = 9 ∨ ∃ t, t < S.1 ∧ s.testBit t = true ∧ S.2 2 t = g) : s &&& F_with S 2 g = F_least S s := by
  apply Nat.eq_of_testBit_eq
  intro i
  unfold F_with F_least
  rw [Nat.testBit_and, bsN_bit, bsN_bit]
  by_cases hi : i < S.1
  · by_cases hb : s.testBit i = true
    · simp only [hi, hb, decide_true, Bool.true_and]
      rw [Bool.eq_iff_iff, rng_at, decide_eq_true_iff]
      constructor
      · intro e u hu
        by_cases hbu : s.testBit u = true
        · have := h1 u hu hbu; simp [hbu]; omega
        · simp [hbu]
      · intro h
        have a := h1 i hi hb
        rcases h2 with rfl | ⟨t, ht, hbt, e⟩
        · have := (ho i hi).2.2.1; omega
        · have b := h t ht; simp [hbt] at b; omega
    · simp [hb]
  · simp [hi]
theorem s_left {X : Cx} {σ : Sg} {Q : Int → Sg → Prop} {S : Sc} {s : Nat} (h : atC S σ) (ho : okR S) (hap : ∀ a b, a < S.1 → b < S.1 → S.2 4 a = S.2 4 b → a = b) (hs : s < 256) (k : Q (F_left S s : Nat) σ) : KX5_leftmost X s σ Q := by
  obtain ⟨hn, h8, hrow⟩ := h
  refine eX5_leftmost (rX5_leftmost_0 fun _ => ?_)
  have loop : ∀ d i : Nat, i + d = S.1 → ∀ f l : Int, ((f = 0 ∧ l = 16 ∧ ∀ t, t < i → s.testBit t = false) ∨ ∃ t, t < S.1 ∧ s.testBit t = true ∧ f = ((2 ^ t : Nat) : Int) ∧ l = S.2 4 t ∧ ∀ u, u < i → s.testBit u = true → S.2 4 t ≤ S.2 4 u) → GX5_leftmost_8 X s f l i σ Q := by
    intro d
    induction d with
    | zero =>
      intro i hi f l hf
      have : i = S.1 := by omega
      subst this
      refine rX5_leftmost_8 fun _ => ⟨by omega, fun _ => ?_, fun h => by omega⟩
      have e : f = ((F_left S s : Nat) : Int) := by
        rcases hf with ⟨rfl, -, hf⟩ | ⟨t, ht, hb, rfl, -, hf⟩
        · have : F_left S s = 0 := (bsN_zero _).mpr fun u hu => by simp [hf u hu]
          rw [this]; rfl
        · congr 1
          apply Nat.eq_of_testBit_eq
          intro u
          unfold F_left
          rw [Nat.testBit_two_pow, bsN_bit]
          by_cases hu : u < S.1
          · by_cases hbu : s.testBit u = true
            · simp only [hu, hbu, decide_true, Bool.true_and]
              rw [Bool.eq_iff_iff, rng_at, decide_eq_true_iff]
              constructor
              · rintro rfl w hw
                by_cases hbw : s.testBit w = true
                · have := hf w hw hbw; simp [hbw]; omega
                · simp [hbw]
              · intro h
                have a := hf u hu hbu
                have b := h t ht
                simp [hb] at b
                exact hap t u ht hu (by omega)
            · have : ¬ t = u := fun q => hbu (q ▸ hb)
              simp [hbu, this]
          · have : ¬ t = u := by omega
            simp [hu, this]
      rw [e]; exact k
    | succ d ih =>
      intro i hi f l hf
      have hl : 0 ≤ l ∧ l ≤ 16 := by
        rcases hf with ⟨-, rfl, -⟩ | ⟨t, ht, -, -, rfl, -⟩
        · omega
        · have := (ho t ht).2.2.2.2.1; omega
      have e : σ 7 ((i : Int).toNat) = S.2 4 i := hrow 4 i (by decide) (by omega)
      have hp := (ho i (by omega)).2.2.2.2.1
      refine rX5_leftmost_8 fun _ => ⟨by omega, fun h => by omega, fun _ => ⟨by omega, fun h => by omega, fun _ => ?_⟩⟩
      rw [bit_is (by omega) (by omega), e]
      refine ⟨fun hb => rX5_leftmost_62 fun _ => ih (i + 1) (by omega) f l ?_, fun hb => ⟨by omega, by omega, fun hle => rX5_leftmost_62 fun _ => ih (i + 1) (by omega) f l ?_, fun hlt => ⟨by omega, rX5_leftmost_62 fun _ => ih (i + 1) (by omega) _ _ ?_⟩⟩⟩
      · rcases hf with ⟨h1, h2, h3⟩ | ⟨t, ht, h1, h2, h3, h4⟩
        · refine Or.inl ⟨h1, h2, fun t ht => ?_⟩
          rcases Nat.lt_succ_iff_lt_or_eq.mp ht with q | rfl
          · exact h3 t q
          · simpa using hb
        · refine Or.inr ⟨t, ht, h1, h2, h3, fun u hu hbu => ?_⟩
          rcases Nat.lt_succ_iff_lt_or_eq.mp hu with q | rfl
          · exact h4 u q hbu
          · exact absurd hbu hb
      · rcases hf with ⟨h1, h2, h3⟩ | ⟨t, ht, h1, h2, h3, h4⟩
        · omega
        · refine Or.inr ⟨t, ht, h1, h2, h3, fun u hu hbu => ?_⟩
          rcases Nat.lt_succ_iff_lt_or_eq.mp hu with q | rfl
          · exact h4 u q hbu
          · omega
      · refine Or.inr ⟨i, by omega, hb, zshl_one (by omega), rfl, fun u hu hbu => ?_⟩
        rcases Nat.lt_succ_iff_lt_or_eq.mp hu with q | rfl
        · rcases hf with ⟨h1, h2, h3⟩ | ⟨t, ht, h1, h2, h3, h4⟩
          · exact absurd hbu (by rw [h3 u q]; decide)
          · have := h4 u q hbu; omega
        · omega
  exact loop S.1 0 (by omega) 0 16 (Or.inl ⟨rfl, rfl, fun t ht => by omega⟩)
theorem F_all_lt {S : Sc} (h : S.1 ≤ 8) : F_all S < 256 := by
  have := pow_lt8 h
  have := Nat.two_pow_pos S.1
  unfold F_all; omega
theorem F_left_lt {S : Sc} (h : S.1 ≤ 8) (s : Nat) : F_left S s < 256 := bsN_256 h _
def apart (S : Sc) : Prop := ∀ a b, a < S.1 → b < S.1 → S.2 4 a = S.2 4 b → a = b
theorem s_turned {X : Cx} {σ : Sg} {Q : Int → Sg → Prop} {S : Sc} {w s : Nat} (h : atC S σ) (ho : okR S) (hap : apart S) (hw : w < 15) (hs : s < 256) (hbc : (w ≠ 4 ∧ w ≠ 8 ∧ w ≠ 9 ∧ w ≠ 10 ∧ w ≠ 11 ∧ w ≠ 12 ∧ w ≠ 13) → ∀ T : Int → Sg → Prop, T (pc8 s : Nat) σ → KJ6_bitCount_0f7a4 X s σ T) (k : Q (F_turn S w s : Nat) σ) : KX5_turned X w s σ Q := by
  have h8 := h.2.1
  unfold F_turn at k
  refine eX5_turned (rX5_turned_0 fun _ => ⟨by omega, fun q => ?_, fun q => ?_, fun q => ?_, fun q => ?_, fun q => ?_, fun q => ?_, fun q => ?_, fun q => ?_⟩)
  · have q : w = 4 := by omega
    subst q
    refine s_all h fun _ => ?_
    rw [zandn_nat (Nat.lt_trans (F_all_lt h8) (by decide)) (by omega)]
    exact k
  · have q : w = 8 := by omega
    subst q
    exact s_linked (r := 5) h ho (by decide) hs fun _ => k
  · have q : w = 9 := by omega
    subst q
    exact s_linked (r := 6) h ho (by decide) hs fun _ => k
  · have q : w = 10 := by omega
    subst q
    refine s_greatest h ho hs fun g h1 h2 _ => ?_
    have hg : inI g := by
      rcases h2 with rfl | ⟨t, ht, -, rfl⟩
      · decide
      · have := (ho t ht).2.2.1; omega
    refine s_ofSize h hg hs fun _ => ?_
    rw [most_eq ho h1 h2]
    exact k
  · have q : w = 11 := by omega
    subst q
    refine s_leastS h ho hs fun g h1 h2 _ => ?_
    have hg : inI g := by
      rcases h2 with rfl | ⟨t, ht, -, rfl⟩
      · decide
      · have := (ho t ht).2.2.1; omega
    refine s_ofSize h hg hs fun _ => ?_
    rw [least_eq ho h1 h2]
    exact k
  · have q : w = 12 := by omega
    subst q
    exact s_left h ho hap hs fun _ => k
  · have q : w = 13 := by omega
    subst q
    refine s_left h ho hap hs fun _ => ?_
    have hl := F_left_lt h8 s
    rw [zandn_nat (by omega) (by omega)]
    have := ndf_le s (F_left S s)
    exact s_left h ho hap (by omega) fun _ => k
  · have hw' : w ≠ 4 ∧ w ≠ 8 ∧ w ≠ 9 ∧ w ≠ 10 ∧ w ≠ 11 ∧ w ≠ 12 ∧ w ≠ 13 := by omega
    rw [if_neg hw'.1, if_neg hw'.2.1, if_neg hw'.2.2.1, if_neg hw'.2.2.2.1, if_neg hw'.2.2.2.2.1, if_neg hw'.2.2.2.2.2.1, if_neg hw'.2.2.2.2.2.2] at k
    unfold F_only at k
    have hpc : pc8 s ≤ 8 := by
      unfold pc8
      have : ∀ b : Bool, (if b = true then 1 else 0 : Nat) ≤ 1 := by intro b; cases b <;> decide
      have a0 := this (s.testBit 0); have a1 := this (s.testBit 1); have a2 := this (s.testBit 2); have a3 := this (s.testBit 3)
      have a4 := this (s.testBit 4); have a5 := this (s.testBit 5); have a6 := this (s.testBit 6); have a7 := this (s.testBit 7)
      omega
    refine hbc hw' _ fun _ => ⟨by omega, fun h => ?_, fun h => ?_⟩
    · rw [if_neg (by omega)] at k; exact k
    · rw [if_pos (by omega)] at k; exact k
theorem s_join {X : Cx} {σ : Sg} {Q : Int → Sg → Prop} {w a b : Nat} (hw : w < 15) (ha : a < 256) (hb : b < 256) (k : Q (F_join w a b : Nat) σ) : KX10_join X w a b σ Q := by
  unfold F_join at k
  refine eX10_join (rX10_join_0 fun _ => ⟨by omega, fun q => ?_, fun q => ?_, fun q => ?_⟩)
  · rw [if_pos (by omega)] at k; rw [zand_nat (by omega) (by omega)]; exact k
  · rw [if_neg (by omega), if_pos (by omega)] at k; rw [zor_nat (by omega) (by omega)]; exact k
  · rw [if_neg (by omega), if_neg (by omega)] at k; rw [zandn_nat (by omega) (by omega)]; exact k
