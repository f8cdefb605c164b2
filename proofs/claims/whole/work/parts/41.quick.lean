/-! quick -/
def qcode (S : Sc) (t i : Nat) : Nat := if i = 0 then 8 + (S.2 0 t).toNat else if i = 1 then 16 + (S.2 1 t).toNat else if i < 5 then 24 + (i - 2) else 24 + (i - 5)
def qset (S : Sc) (t i : Nat) : Nat := if i < 5 then F_named S (qcode S t i) else ndf (F_all S) (F_named S (qcode S t i))
def qcost (P : Nat → Int) (i : Nat) : Int := if i = 0 then P 1 else if i = 1 then P 2 else if i < 5 then P 3 else P 4 + P 3
def qend (P : Nat → Int) (t left : Nat) (sum : Int) (n : Nat) : Int := if left = 2 ^ t then (if n = 0 then P 0 else sum + ((n : Int) - 1) * P 5) else -1
def qrun (S : Sc) (P : Nat → Int) (t : Nat) : Nat → Nat → Int → Nat → Int
  | 0, left, sum, n => qend P t left sum n
  | d + 1, left, sum, n => if left = 2 ^ t then qend P t left sum n else if (qset S t (8 - (d + 1))).testBit t = true ∧ (left &&& qset S t (8 - (d + 1))) ≠ left then qrun S P t d (left &&& qset S t (8 - (d + 1))) (sum + qcost P (8 - (d + 1))) (n + 1) else qrun S P t d left sum n
theorem qcode_lt {S : Sc} {t i : Nat} (ho : okR S) (ht : t < S.1) (hi : i < 8) : qcode S t i < 32 := by
  have := ho t ht
  unfold qcode
  split
  · omega
  · split
    · omega
    · split <;> omega
theorem qcode_w {S : Sc} {t i : Nat} (ho : okR S) (ht : t < S.1) (hi : i < 8) : qcode S t i / 8 = (if i = 0 then 1 else if i = 1 then 2 else 3) := by
  have := ho t ht
  unfold qcode
  split
  · omega
  · split
    · omega
    · split <;> omega
theorem s_property {X : Cx} {σ : Sg} {Q : Int → Sg → Prop} {S : Sc} {t i : Nat} (h : atC S σ) (ho : okR S) (ht : t < S.1) (hi : i < 8) (k : Q (qcode S t i : Nat) σ) : KX3_property X i t σ Q := by
  have h8 := h.2.1
  have hr := ho t ht
  unfold qcode at k
  refine eX3_property (rX3_property_0 fun _ => ⟨by omega, fun z => ⟨by omega, fun z1 => ⟨by omega, fun z5 => ?_, fun z5 => ?_⟩, fun z1 => ⟨by omega, ?_⟩⟩, fun z => ⟨by omega, ?_⟩⟩)
  · rw [if_neg (by omega), if_neg (by omega), if_neg (by omega)] at k
    rw [show (24 + ((i : Int) - 5)) = ((24 + (i - 5) : Nat) : Int) by omega]; exact k
  · rw [if_neg (by omega), if_neg (by omega), if_pos (by omega)] at k
    have : 2 ≤ i := by omega
    rw [show (24 + ((i : Int) - 2)) = ((24 + (i - 2) : Nat) : Int) by omega]; exact k
  · rw [if_neg (by omega), if_pos (by omega)] at k
    rw [show σ 4 ((t : Int).toNat) = σ (3 + 1) t from rfl, h.2.2 1 t (by decide) ht, show (16 + S.2 1 t) = ((16 + (S.2 1 t).toNat : Nat) : Int) by omega]; exact k
  · rw [if_pos (by omega)] at k
    rw [show σ 3 ((t : Int).toNat) = σ (3 + 0) t from rfl, h.2.2 0 t (by decide) ht, show (8 + S.2 0 t) = ((8 + (S.2 0 t).toNat : Nat) : Int) by omega]; exact k
theorem qset_lt {S : Sc} (h8 : S.1 ≤ 8) (t i : Nat) : qset S t i < 256 := by
  unfold qset
  split
  · exact F_named_lt h8 _
  · have := ndf_le (F_all S) (F_named S (qcode S t i)); have := F_all_lt h8; omega
theorem and_le_256 {a b : Nat} (h : a < 256) : a &&& b < 256 := Nat.lt_of_le_of_lt Nat.and_le_left h
theorem zero_bits {a : Nat} : a = 0 ↔ ∀ i, a.testBit i = false := ⟨fun h i => by rw [h]; simp, fun h => Nat.eq_of_testBit_eq fun i => by rw [h i]; simp⟩
theorem and_pow_ne {a t : Nat} : (a &&& 2 ^ t) ≠ 0 ↔ a.testBit t = true := by
  constructor
  · intro h
    cases hb : a.testBit t with
    | true => rfl
    | false =>
      exfalso
      refine h (zero_bits.mpr fun i => ?_)
      rw [Nat.testBit_and, Nat.testBit_two_pow]
      by_cases q : t = i
      · rw [← q, hb]; rfl
      · simp [q]
  · intro h e
    have := zero_bits.mp e t
    rw [Nat.testBit_and, Nat.testBit_two_pow_self, h] at this
    exact absurd this (by decide)
theorem F_all_bit {S : Sc} (i : Nat) : (F_all S).testBit i = decide (i < S.1) := Nat.testBit_two_pow_sub_one _ _
/-- a set of things that has t -/
def goodL (S : Sc) (t left : Nat) : Prop := left < 256 ∧ left.testBit t = true ∧ ∀ i, left.testBit i = true → i < S.1
theorem goodL.and {S : Sc} {t left s : Nat} (h : goodL S t left) (hs : s.testBit t = true) : goodL S t (left &&& s) := ⟨and_le_256 h.1, by rw [Nat.testBit_and, h.2.1, hs]; rfl, fun i hi => by rw [Nat.testBit_and] at hi; exact h.2.2 i (by revert hi; cases left.testBit i <;> simp)⟩
theorem q_narrow {S : Sc} {t left i : Nat} (h : goodL S t left) (hi : 5 ≤ i) : ndf left (F_named S (qcode S t i)) = (left &&& qset S t i) := by
  unfold qset
  rw [if_neg (by omega)]
  apply Nat.eq_of_testBit_eq
  intro j
  rw [ndf_bit, Nat.testBit_and, ndf_bit, F_all_bit]
  have := h.2.2 j
  cases hl : left.testBit j with
  | false => rfl
  | true => rw [decide_eq_true (this hl)]; rfl
theorem s_quick {X : Cx} {σ : Sg} {Q : Int → Sg → Prop} {S : Sc} {P : Nat → Int} {t : Nat} (h : atC S σ) (hS : okS S) (hP : ∀ w, w < 15 → σ 11 w = P w) (ht : t < S.1) (k : Q (qrun S P t 8 (F_all S) 0 0) σ) : KX3_cost X t σ Q := by
  have h8 := h.2.1
  have ho := hS.2.1
  refine eX3_cost (rX3_cost_0 fun _ => s_all h fun _ => ?_)
  rw [zshl_one (by omega)]
  have p256 : 2 ^ t < 256 := Nat.pow_lt_pow_right (a := 2) (n := 8) (by decide) (show t < 8 by omega)
  have p256' : ((2 ^ t : Nat) : Int) < 256 := Int.ofNat_lt.mpr p256
  have p0' : 0 ≤ ((2 ^ t : Nat) : Int) := Int.natCast_nonneg _
  have ends : ∀ (left : Nat) (sum : Int) (n i : Nat), left < 256 → n ≤ 8 → Q (qend P t left sum n) σ → GX3_cost_119 X t left (2 ^ t : Nat) sum n i σ Q := by
    intro left sum n i hl hn k
    unfold qend at k
    refine rX3_cost_119 fun _ => ⟨by omega, by omega, fun z => ⟨by omega, fun z0 => ?_, fun z0 => ?_⟩, fun z => ?_⟩
    · rw [if_pos (by omega), if_neg (by omega)] at k; rw [hP 5 (by decide)]; exact k
    · rw [if_pos (by omega), if_pos (by omega)] at k; rw [hP 0 (by decide)]; exact k
    · rw [if_neg (by omega)] at k; exact k
  have loop : ∀ d i : Nat, i + d = 8 → ∀ (left : Nat) (sum : Int) (n : Nat), goodL S t left → n ≤ i → Q (qrun S P t d left sum n) σ → GX3_cost_19 X t left (2 ^ t : Nat) sum n i σ Q := by
    intro d
    induction d with
    | zero =>
      intro i hi left sum n hg hn k
      exact rX3_cost_19 fun _ => ⟨by omega, fun _ => ends _ _ _ _ hg.1 (by omega) k, fun z => by omega⟩
    | succ d ih =>
      intro i hi left sum n hg hn k
      unfold qrun at k
      rw [show 8 - (d + 1) = i by omega] at k
      have hg1 := hg.1
      refine rX3_cost_19 fun _ => ⟨by omega, fun z => by omega, fun _ => ⟨by omega, by omega, fun z => ?_, fun z => ?_⟩⟩
      · rw [if_pos (by omega)] at k
        exact ends _ _ _ _ hg.1 (by omega) k
      · rw [if_neg (by omega)] at k
        have hc := qcode_lt (i := i) ho ht (by omega)
        have hcw := qcode_w (i := i) ho ht (by omega)
        have hq := qset_lt h8 t i
        have tail : ∀ s0 : Int, zand left s0 = ((left &&& qset S t i : Nat) : Int) → GX3_cost_65 X t left (2 ^ t : Nat) sum n i (qcode S t i : Nat) s0 left σ Q := by
          intro s0 hs0
          have hal : left &&& qset S t i < 256 := and_le_256 hg1
          refine rX3_cost_65 fun _ => ⟨by omega, ?_⟩
          rw [hs0, zand_nat (by omega) (by omega)]
          have same : ¬ ((qset S t i).testBit t = true ∧ (left &&& qset S t i) ≠ left) → GX3_cost_113 X t left (2 ^ t : Nat) sum n i (qcode S t i : Nat) ((left &&& qset S t i : Nat) : Int) σ Q := fun y => by
            rw [if_neg y] at k
            exact rX3_cost_113 fun _ => ih (i + 1) (by omega) left sum n hg (by omega) k
          have hb : ((left &&& qset S t i) &&& 2 ^ t) ≠ 0 ↔ (qset S t i).testBit t = true := by
            rw [and_pow_ne, Nat.testBit_and, hg.2.1]; simp
          refine ⟨fun y => same (fun u => u.2 (by omega)), fun y => ⟨fun u => same (fun v => hb.mpr v.1 (by omega)), fun u => ?_⟩⟩
          have hbt := hb.mp (by omega)
          rw [if_pos ⟨hbt, by omega⟩] at k
          have go : ∀ s0 s1 : Int, s1 + s0 = qcost P i → GX3_cost_109 X t ((left &&& qset S t i : Nat) : Int) (2 ^ t : Nat) sum ((n : Int) + 1) i (qcode S t i : Nat) ((left &&& qset S t i : Nat) : Int) s0 s1 sum σ Q := by
            intro s0 s1 e
            refine rX3_cost_109 fun _ => rX3_cost_113 fun _ => ?_
            rw [e]
            exact ih (i + 1) (by omega) _ _ (n + 1) (hg.and hbt) (by omega) k
          rw [shr3 (by omega), hcw]
          have lt3 : (if i = 0 then 1 else if i = 1 then 2 else 3) ≤ 3 := by split <;> (try split) <;> omega
          refine ⟨by omega, by omega, fun v => go _ _ ?_, fun v => go _ _ ?_⟩
          · rw [hP 4 (by decide), show ((((if i = 0 then 1 else if i = 1 then 2 else 3 : Nat) : Int)).toNat) = (if i = 0 then 1 else if i = 1 then 2 else 3) from rfl, hP _ (by omega)]
            unfold qcost
            rw [if_neg (by omega), if_neg (by omega), if_neg (by omega), if_neg (by omega), if_neg (by omega)]
            omega
          · rw [show ((((if i = 0 then 1 else if i = 1 then 2 else 3 : Nat) : Int)).toNat) = (if i = 0 then 1 else if i = 1 then 2 else 3) from rfl, hP _ (by omega)]
            unfold qcost
            rcases (show i = 0 ∨ i = 1 ∨ (2 ≤ i ∧ i < 5) by omega) with rfl | rfl | y
            · simp
            · simp
            · rw [if_neg (by omega), if_neg (by omega), if_neg (by omega), if_neg (by omega), if_pos y.2]; omega
        refine s_property h ho ht (by omega) fun _ => ⟨by omega, fun y => s_named h ho hc fun _ => tail _ ?_, fun y => s_named h ho hc fun _ => tail _ ?_⟩
        · rw [zandn_nat (by omega) (by have := F_named_lt (S := S) h8 (qcode S t i); omega), q_narrow hg (by omega)]
        · rw [zand_nat (by omega) (by have := F_named_lt (S := S) h8 (qcode S t i); omega)]
          unfold qset; rw [if_pos (by omega)]
  exact loop 8 0 rfl (F_all S) 0 0 ⟨F_all_lt h8, by rw [F_all_bit]; simpa using ht, fun i hi => by rw [F_all_bit] at hi; simpa using hi⟩ (Nat.zero_le _) k
def opQuick (A : AS) (t : Int) : Int × AS := (if isThingN A.1 t then qrun A.1 A.2.1 t.toNat 8 (F_all A.1) 0 0 else -2, A)
theorem c_quick {CK : CKt} {X : Cx} {A : AS} {m : Nat} {σ : Sg} {t : Int} (h : InvC CK A m σ) (hA : okA A) (ht : inI t) : doesC CK m (opQuick A t) σ (KX11_quick X t σ) := by
  intro Q K
  have K := K σ (fun _ _ _ => rfl) h.more
  have h8 := hA.1.1
  unfold opQuick at K
  refine eX11_quick (rX11_quick_0 fun _ => s_has h.1.1 h8 ht fun _ => ?_)
  by_cases q : 0 ≤ t ∧ t < (A.1.1 : Int)
  · rw [if_pos q] at K ⊢
    obtain ⟨j, rfl⟩ : ∃ j : Nat, t = j := ⟨t.toNat, by omega⟩
    exact ⟨by decide, fun z => absurd z (by decide), fun _ => s_quick h.1 hA.1 h.2.2.2.1 (by omega) fun _ => K⟩
  · rw [if_neg q] at K ⊢
    exact ⟨by decide, fun _ => K, fun z => absurd rfl z⟩
theorem m_allOfC {X : Cx} {σ : Sg} {Q : Int → Sg → Prop} {S : Sc} {w c : Nat} {v : Int} (h : atM S σ) (ho : okR S) (hw : w < 4) (hc : (c : Int) = 8 * w + v) (hv : 0 ≤ v ∧ v < 8) (k : Q (F_named S c : Nat) σ) : KX12_allOf X w v σ Q := by
  obtain ⟨n, rfl⟩ : ∃ n : Nat, v = n := ⟨v.toNat, by omega⟩
  have : c = 8 * w + n := by omega
  subst this
  exact m_allOf h ho hw (by omega) k
theorem m_quick {X : Cx} {A : AS} {σ : Sg} {t : Int} (h : InvM A σ) (hA : okA A) (ht : inI t) : doesM (opQuick A t) σ (KX12_quick X t σ) := by
  intro Q K
  have k := K σ (fun _ _ _ => rfl) h
  have h8 := hA.1.1
  have ho := hA.1.2.1
  have hP := h.2.2.1
  have hat := h.1
  clear K
  unfold opQuick at k
  refine eX12_quick (rX12_quick_0 fun _ => m_isThing h.1.1 h8 ht fun _ => ?_)
  generalize A.1 = S at *
  generalize A.2.1 = P at *
  by_cases q : 0 ≤ t ∧ t < (S.1 : Int)
  · rw [if_pos q] at k ⊢
    obtain ⟨t, rfl⟩ : ∃ j : Nat, t = j := ⟨t.toNat, by omega⟩
    rw [show ((t : Int).toNat) = t from rfl] at k
    have htt : t < S.1 := by omega
    have hr := ho t htt
    have p256 : 2 ^ t < 256 := Nat.pow_lt_pow_right (a := 2) (n := 8) (by decide) (show t < 8 by omega)
    have p256' : ((2 ^ t : Nat) : Int) < 256 := Int.ofNat_lt.mpr p256
    have p0' : 0 ≤ ((2 ^ t : Nat) : Int) := Int.natCast_nonneg _
    refine ⟨by decide, fun _ => m_every hat fun _ => ?_, fun z => absurd z (by decide)⟩
    have ends : ∀ (left : Nat) (sum : Int) (n i : Nat), left < 256 → n ≤ 8 → Q (qend P t left sum n) σ → GX12_quick_205 X t left sum n i σ Q := by
      intro left sum n i hl hn k
      unfold qend at k
      refine rX12_quick_205 fun _ => ⟨by omega, ?_⟩
      rw [zshl_one (by omega)]
      refine ⟨fun z => ⟨by omega, fun z0 => ?_, fun z0 => ?_⟩, fun z => ?_⟩
      · rw [if_pos (by omega), if_neg (by omega)] at k; rw [hP 5 (by decide)]; exact k
      · rw [if_pos (by omega), if_pos (by omega)] at k; rw [hP 0 (by decide)]; exact k
      · rw [if_neg (by omega)] at k; exact k
    have loop : ∀ d i : Nat, i + d = 8 → ∀ (left : Nat) (sum : Int) (n : Nat), goodL S t left → n ≤ i → Q (qrun S P t d left sum n) σ → GX12_quick_24 X t left sum n i σ Q := by
      intro d
      induction d with
      | zero =>
        intro i hi left sum n hg hn k
        exact rX12_quick_24 fun _ => ⟨by omega, fun _ => ends _ _ _ _ hg.1 (by omega) k, fun z => by omega⟩
      | succ d ih =>
        intro i hi left sum n hg hn k
        unfold qrun at k
        rw [show 8 - (d + 1) = i by omega] at k
        have hg1 := hg.1
        refine rX12_quick_24 fun _ => ⟨by omega, fun z => by omega, fun _ => ⟨by omega, ?_⟩⟩
        rw [zshl_one (by omega)]
        refine ⟨fun z => ?_, fun z => ?_⟩
        · rw [if_pos (by omega)] at k
          exact ends _ _ _ _ hg.1 (by omega) k
        · rw [if_neg (by omega)] at k
          have hc := qcode_lt (i := i) ho htt (by omega)
          have hq := qset_lt h8 t i
          have tail : GX12_quick_111 X t left sum n i (qset S t i : Nat) σ Q := by
            have hal : left &&& qset S t i < 256 := and_le_256 hg1
            refine rX12_quick_111 fun _ => ?_
            rw [bit_is (by omega) (by omega), zand_nat (by omega) (by omega)]
            have same : ¬ ((qset S t i).testBit t = true ∧ (left &&& qset S t i) ≠ left) → GX12_quick_199 X t left sum n i (qset S t i : Nat) σ Q := fun y => by
              rw [if_neg y] at k
              exact rX12_quick_199 fun _ => ih (i + 1) (by omega) left sum n hg (by omega) k
            refine ⟨fun y => same (fun u => y u.1), fun hbt => ⟨by omega, fun y => same (fun u => u.2 (by omega)), fun y => ?_⟩⟩
            rw [if_pos ⟨hbt, by omega⟩] at k
            have go : ∀ s0 : Int, s0 = qcost P i → GX12_quick_194 X t ((left &&& qset S t i : Nat) : Int) sum n i (qset S t i : Nat) s0 sum σ Q := by
              intro s0 e
              refine rX12_quick_194 fun _ => rX12_quick_199 fun _ => ?_
              rw [e]
              exact ih (i + 1) (by omega) _ _ (n + 1) (hg.and hbt) (by omega) k
            unfold qcost at go
            rw [hP 4 (by decide), hP 3 (by decide), hP 2 (by decide), hP 1 (by decide)]
            refine ⟨by omega, fun v0 => ⟨by omega, fun v1 => ⟨by omega, fun v5 => go _ ?_, fun v5 => go _ ?_⟩, fun v1 => go _ ?_⟩, fun v0 => go _ ?_⟩
            · rw [if_neg (by omega), if_neg (by omega), if_neg (by omega)]
            · rw [if_neg (by omega), if_neg (by omega), if_pos (by omega)]
            · rw [if_neg (by omega), if_pos (by omega)]
            · rw [if_pos (by omega)]
          have tail' : ∀ s : Nat, s = qset S t i → GX12_quick_111 X t left sum n i (s : Nat) σ Q := fun s e => by rw [e]; exact tail
          unfold qset qcode at tail'
          refine ⟨by omega, fun v0 => ⟨by omega, fun v1 => ⟨by omega, fun v5 => m_every hat fun _ => m_allOfC (w := 3) (c := 24 + (i - 5)) hat ho (by decide) (by omega) (by omega) fun _ => ?_, fun v5 => m_allOfC (w := 3) (c := 24 + (i - 2)) hat ho (by decide) (by omega) (by omega) fun _ => tail' _ ?_⟩, fun v1 => ⟨by omega, ?_⟩⟩, fun v0 => ⟨by omega, ?_⟩⟩
          · rw [zandn_nat (by have := F_all_lt h8; omega) (by have := F_named_lt (S := S) h8 (24 + (i - 5)); omega)]
            refine tail' _ ?_
            rw [if_neg (by omega), if_neg (by omega), if_neg (by omega), if_neg (by omega)]
          · rw [if_pos (by omega), if_neg (by omega), if_neg (by omega), if_pos (by omega)]
          · rw [show σ 71 ((t : Int).toNat) = S.2 1 t from (hat.2.2 t htt).2.1]
            refine m_allOfC (w := 2) (c := 16 + (S.2 1 t).toNat) hat ho (by decide) (by omega) (by omega) fun _ => tail' _ ?_
            rw [if_pos (by omega), if_neg (by omega), if_pos (by omega)]
          · rw [show σ 70 ((t : Int).toNat) = S.2 0 t from (hat.2.2 t htt).1]
            refine m_allOfC (w := 1) (c := 8 + (S.2 0 t).toNat) hat ho (by decide) (by omega) (by omega) fun _ => tail' _ ?_
            rw [if_pos (by omega), if_pos (by omega)]
    exact loop 8 0 rfl (F_all S) 0 0 ⟨F_all_lt h8, by rw [F_all_bit]; simpa using htt, fun i hi => by rw [F_all_bit] at hi; simpa using hi⟩ (Nat.zero_le _) k
  · rw [if_neg q] at k ⊢
    exact ⟨by decide, fun z => absurd rfl z, fun _ => k⟩
