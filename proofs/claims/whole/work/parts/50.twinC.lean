/-! twin: the class -/
def clsB (S : Sc) (s : Nat → Nat) (t : Nat) : Nat := bsN S.1 (fun o => decide (s o = s t))
theorem lob_is {x k : Nat} (hk : k < 8) (hb : x.testBit k = true) (hl : ∀ j, j < k → x.testBit j = false) : lob x = k := by
  unfold lob
  rcases (show k = 0 ∨ k = 1 ∨ k = 2 ∨ k = 3 ∨ k = 4 ∨ k = 5 ∨ k = 6 ∨ k = 7 by omega) with rfl | rfl | rfl | rfl | rfl | rfl | rfl | rfl
  · simp [hb]
  · simp [hb, hl 0 (by decide)]
  · simp [hb, hl 0 (by decide), hl 1 (by decide)]
  · simp [hb, hl 0 (by decide), hl 1 (by decide), hl 2 (by decide)]
  · simp [hb, hl 0 (by decide), hl 1 (by decide), hl 2 (by decide), hl 3 (by decide)]
  · simp [hb, hl 0 (by decide), hl 1 (by decide), hl 2 (by decide), hl 3 (by decide), hl 4 (by decide)]
  · simp [hb, hl 0 (by decide), hl 1 (by decide), hl 2 (by decide), hl 3 (by decide), hl 4 (by decide), hl 5 (by decide)]
  · simp [hb, hl 0 (by decide), hl 1 (by decide), hl 2 (by decide), hl 3 (by decide), hl 4 (by decide), hl 5 (by decide), hl 6 (by decide)]
theorem clsB_lt {S : Sc} (h : S.1 ≤ 8) (s : Nat → Nat) (t : Nat) : clsB S s t < 256 := bsN_256 h _
theorem clsB_lob {S : Sc} {s : Nat → Nat} (h : S.1 ≤ 8) (hs : isSort s) {t : Nat} (ht : t < S.1) : lob (clsB S s t) = s t ∧ clsB S s t ≠ 0 := by
  have l := hs.le t
  have b : (clsB S s t).testBit (s t) = true := by
    unfold clsB; rw [bsN_bit]; simp [hs.idem t]; omega
  refine ⟨lob_is (by omega) b fun j hj => ?_, fun z => by rw [z] at b; simp at b⟩
  unfold clsB
  rw [bsN_bit]
  have : s j ≠ s t := fun e => by have := hs.first e; omega
  simp [this]
theorem lnk_lt {S : Sc} (ho : okR S) {r t : Nat} (h5 : 5 ≤ r) (h8 : r < 8) (ht : t < S.1) : lnk S r t < 256 ∧ ((lnk S r t : Nat) : Int) = S.2 r t := by
  have q := ho t ht
  unfold lnk
  rcases (show r = 5 ∨ r = 6 ∨ r = 7 by omega) with rfl | rfl | rfl <;> omega
theorem lnk_cnt {S : Sc} {s : Nat → Nat} (h : S.1 ≤ 8) (x k : Nat) : pc8 (x &&& clsB S s k) = hm S s x (s k) := pc8_cnt h
theorem s_hasAsMany {X : Cx} {σ : Sg} {Q : Int → Sg → Prop} {S : Sc} {s : Nat → Nat} {i j : Nat} (h : atC S σ) (ho : okR S) (hb : ∀ k, k < S.1 → σ 60 k = ((clsB S s k : Nat) : Int)) (hi : i < S.1) (hj : j < S.1) (K : Q (if many S s i j then 1 else 0) σ) : KX8_hasAsMany X i j σ Q := by
  obtain ⟨h1, h8, hr⟩ := h
  refine eX8_hasAsMany (rX8_hasAsMany_0 fun _ => ?_)
  have no : ∀ r k, k < S.1 → 5 ≤ r → r < 8 → hm S s (lnk S r i) (s k) ≠ hm S s (lnk S r j) (s k) → Q 0 σ := fun r k hk h5 h8' hne => by
    rw [if_neg (fun z => hne (many_iff.mp z k hk r h5 h8'))] at K
    exact K
  have outer : ∀ d r : Nat, r + d = 8 → 5 ≤ r → (∀ k, k < S.1 → ∀ q, 5 ≤ q → q < r → hm S s (lnk S q i) (s k) = hm S s (lnk S q j) (s k)) → GX8_hasAsMany_3 X i j r σ Q := by
    intro d
    induction d with
    | zero =>
      intro r hr h5 hall
      have : r = 8 := by omega
      subst this
      rw [if_pos (many_iff.mpr fun k hk q a b => hall k hk q a b)] at K
      exact rX8_hasAsMany_3 fun _ => ⟨by omega, fun _ => K, fun z => by omega⟩
    | succ d ih =>
      intro r hr8 h5 hall
      refine rX8_hasAsMany_3 fun _ => ⟨by omega, fun z => by omega, fun _ => ⟨by omega, ?_⟩⟩
      rw [show ((r : Int).toNat) = r from rfl]
      have hsh : shp (3 + r) = (20, 8) := by
        rcases (show r = 5 ∨ r = 6 ∨ r = 7 by omega) with rfl | rfl | rfl <;> rfl
      have inner : ∀ e k : Nat, k + e = S.1 → (∀ u, u < k → hm S s (lnk S r i) (s u) = hm S s (lnk S r j) (s u)) → GX8_hasAsMany_22 X i j r (3 + r) k σ Q := by
        intro e
        induction e with
        | zero =>
          intro k hk hk'
          have hk : k = S.1 := by omega
          refine rX8_hasAsMany_22 hsh fun _ => ⟨by omega, fun _ => rX8_hasAsMany_79 hsh fun _ => ih (r + 1) (by omega) (by omega) fun u hu q a b => ?_, fun z => by omega⟩
          rcases Nat.lt_succ_iff_lt_or_eq.mp b with y | rfl
          · exact hall u hu q a y
          · exact hk' u (by omega)
        | succ e ihe =>
          intro k hk hk'
          have li := lnk_lt ho h5 (show r < 8 by omega) hi
          have lj := lnk_lt ho h5 (show r < 8 by omega) hj
          have cl := clsB_lt h8 s k
          refine rX8_hasAsMany_22 hsh fun _ => ⟨by omega, fun z => by omega, fun _ => ⟨by omega, fun z => by omega, fun _ => ⟨by omega, by omega, ?_⟩⟩⟩
          rw [show σ (3 + r) ((i : Int).toNat) = ((lnk S r i : Nat) : Int) by rw [li.2]; exact hr r i (by omega) hi, show σ 60 ((k : Int).toNat) = ((clsB S s k : Nat) : Int) from hb k (by omega), zand_nat (by omega) (by omega)]
          refine s_bitCount (Nat.lt_of_le_of_lt Nat.and_le_left li.1) fun _ => ⟨by omega, by omega, ?_⟩
          rw [show σ (3 + r) ((j : Int).toNat) = ((lnk S r j : Nat) : Int) by rw [lj.2]; exact hr r j (by omega) hj, show σ 60 ((k : Int).toNat) = ((clsB S s k : Nat) : Int) from hb k (by omega), zand_nat (by omega) (by omega)]
          refine s_bitCount (Nat.lt_of_le_of_lt Nat.and_le_left lj.1) fun _ => ?_
          have p1 := pc8_le (lnk S r i &&& clsB S s k)
          have p2 := pc8_le (lnk S r j &&& clsB S s k)
          rw [lnk_cnt h8] at p1 p2 ⊢
          rw [lnk_cnt h8]
          refine ⟨by omega, by omega, fun z => ihe (k + 1) (by omega) fun u hu => ?_, fun z => no r k (by omega) h5 (by omega) (by omega)⟩
          rcases Nat.lt_succ_iff_lt_or_eq.mp hu with y | rfl
          · exact hk' u y
          · omega
      exact inner S.1 0 (by omega) fun u hu => by omega
  exact outer 3 5 rfl (by decide) fun k hk q a b => by omega
theorem s_looksLike {X : Cx} {σ : Sg} {Q : Int → Sg → Prop} {S : Sc} {t : Nat} (h : atC S σ) (ht : t < S.1) (K : Q (clsB S (lst (like0 S)) t : Nat) σ) : KX8_looksLike X t σ Q := by
  obtain ⟨h1, h8, hr⟩ := h
  have e : clsB S (lst (like0 S)) t = bsN S.1 (fun o => like0 S o t) := bsN_congr _ fun o _ => by
    have := lst_iff (like0_eqv S) o t
    by_cases q : like0 S o t = true
    · rw [q, decide_eq_true (this.mpr q)]
    · rw [decide_eq_false (fun z => q (this.mp z))]; simpa using q
  rw [e] at K
  have hl : ∀ o, like0 S o t = true ↔ S.2 0 o = S.2 0 t ∧ S.2 1 o = S.2 1 t ∧ S.2 3 o = S.2 3 t := fun o => by unfold like0; simp
  refine eX8_looksLike (rX8_looksLike_0 fun _ => ?_)
  have loop : ∀ d i : Nat, i + d = S.1 → GX8_looksLike_4 X t (bsN i (fun o => like0 S o t) : Nat) i σ Q := by
    intro d
    induction d with
    | zero =>
      intro i hi
      have : i = S.1 := by omega
      subst this
      exact rX8_looksLike_4 fun _ => ⟨by omega, fun _ => K, fun z => by omega⟩
    | succ d ih =>
      intro i hi
      have nx := ih (i + 1) (by omega)
      have no : ¬ like0 S i t = true → GX8_looksLike_81 X t (bsN i (fun o => like0 S o t) : Nat) i σ Q := fun y => by
        rw [bs_out (p := fun o => like0 S o t) y] at nx; exact rX8_looksLike_81 fun _ => nx
      have r0 : ∀ u : Nat, u < S.1 → σ 3 ((u : Int).toNat) = S.2 0 u := fun u hu => hr 0 u (by decide) hu
      have r1 : ∀ u : Nat, u < S.1 → σ 4 ((u : Int).toNat) = S.2 1 u := fun u hu => hr 1 u (by decide) hu
      have r3 : ∀ u : Nat, u < S.1 → σ 6 ((u : Int).toNat) = S.2 3 u := fun u hu => hr 3 u (by decide) hu
      refine rX8_looksLike_4 fun _ => ⟨by omega, fun z => by omega, fun _ => ⟨by omega, fun z => by omega, fun _ => ⟨by omega, by omega, ?_⟩⟩⟩
      rw [r0 i (by omega), r0 t ht, r1 i (by omega), r1 t ht, r3 i (by omega), r3 t ht]
      refine ⟨fun z => no fun y => z ((hl i).mp y).1, fun z0 => ⟨by omega, by omega, fun z => no fun y => z ((hl i).mp y).2.1, fun z1 => ⟨by omega, by omega, fun z => no fun y => z ((hl i).mp y).2.2, fun z3 => rX8_looksLike_81 fun _ => ?_⟩⟩⟩
      rw [bs_in (p := fun o => like0 S o t) (by omega) ((hl i).mpr ⟨z0, z1, z3⟩)]
      exact nx
  exact loop S.1 0 (by omega)
def frW (σ σ' : Sg) : Prop := ∀ c k, ¬ (57 ≤ c ∧ c ≤ 60) → σ' c k = σ c k
theorem frW.trans {σ σ1 σ2 : Sg} (h1 : frW σ σ1) (h2 : frW σ1 σ2) : frW σ σ2 := fun c k a => (h2 c k a).trans (h1 c k a)
def twC (S : Sc) (s rd : Nat → Nat) (σ : Sg) : Prop := ∀ t, t < S.1 → σ 58 t = ((clsB S s t : Nat) : Int) ∧ σ 59 t = ((rd t : Nat) : Int)
/-- what is left of the i-th when j things were looked at -/
def curB (S : Sc) (s : Nat → Nat) (i j : Nat) : Nat := bsN S.1 (fun o => decide (s o = s i) && (decide (j ≤ o) || alk S s o i))
def prtB (S : Sc) (s : Nat → Nat) (i j : Nat) : Bool := (List.range j).any (fun o => decide (s o = s i) && !alk S s o i)
def anyB (S : Sc) (s : Nat → Nat) (i : Nat) : Bool := (List.range i).any (chT S s)
theorem any_succ (f : Nat → Bool) (n : Nat) : (List.range (n + 1)).any f = ((List.range n).any f || f n) := by
  rw [List.range_succ, List.any_append]; simp
theorem curB_end {S : Sc} {s : Nat → Nat} (i : Nat) : curB S s i S.1 = clsB S (fnr S s) i := bsN_congr _ fun o ho => by
  have := lst_iff (alk_eqv S s) o i
  rw [decide_eq_false (show ¬ S.1 ≤ o by omega), Bool.false_or]
  by_cases q : alk S s o i = true
  · rw [q, decide_eq_true (alk_s q), decide_eq_true (show fnr S s o = fnr S s i from this.mpr q)]; rfl
  · rw [decide_eq_false (show ¬ fnr S s o = fnr S s i from fun z => q (this.mp z)), show alk S s o i = false by simpa using q]; simp
theorem s_part {X : Cx} {σ : Sg} {Q : Int → Sg → Prop} {S : Sc} {s rd : Nat → Nat} {turn : Nat} (h : atC S σ) (ho : okR S) (htn : turn ≤ 8) (ht : twC S s rd σ) (K : ∀ σ', frW σ σ' → twC S (fnr S s) (rdN S s turn rd) σ' → Q (if chA S s then 1 else 0) σ') : KX8_part X turn σ Q := by
  have h1 := h.1
  have h8 := h.2.1
  refine eX8_part (rX8_part_0 fun _ => ?_)
  have g60 : ∀ k, k < S.1 → cpy8 σ 58 60 60 k = ((clsB S s k : Nat) : Int) := fun k hk => by
    unfold cpy8; rw [if_pos ⟨rfl, by omega⟩]; exact (ht k hk).1
  have outer : ∀ d i : Nat, i + d = S.1 → ∀ σ1 : Sg, frW σ σ1 → (∀ k, k < S.1 → σ1 60 k = ((clsB S s k : Nat) : Int)) → (∀ t, t < i → σ1 58 t = ((clsB S (fnr S s) t : Nat) : Int) ∧ σ1 59 t = ((rdN S s turn rd t : Nat) : Int)) → (∀ t, i ≤ t → t < S.1 → σ1 58 t = ((clsB S s t : Nat) : Int) ∧ σ1 59 t = ((rd t : Nat) : Int)) → GX8_part_20 X turn (if anyB S s i then 1 else 0) i σ1 Q := by
    intro d
    induction d with
    | zero =>
      intro i hi σ1 f1 b1 c1 d1
      have hi : i = S.1 := by omega
      subst hi
      have e : σ1 1 1 = (S.1 : Int) := by rw [f1 1 1 (by omega)]; exact h1
      refine rX8_part_20 fun _ => ⟨by omega, fun _ => ⟨?_, K σ1 f1 c1⟩, fun z => by omega⟩
      split
      · exact Or.inr rfl
      · exact Or.inl rfl
    | succ d ih =>
      intro i hi σ1 f1 b1 c1 d1
      have e : σ1 1 1 = (S.1 : Int) := by rw [f1 1 1 (by omega)]; exact h1
      refine rX8_part_20 fun _ => ⟨by omega, fun z => by omega, fun _ => ⟨by omega, fun z => by omega, fun _ => ?_⟩⟩
      have inner : ∀ e j : Nat, j + e = S.1 → ∀ σ2 : Sg, frW σ σ2 → (∀ k, k < S.1 → σ2 60 k = ((clsB S s k : Nat) : Int)) → (∀ t, t < i → σ2 58 t = ((clsB S (fnr S s) t : Nat) : Int) ∧ σ2 59 t = ((rdN S s turn rd t : Nat) : Int)) → (∀ t, i < t → t < S.1 → σ2 58 t = ((clsB S s t : Nat) : Int) ∧ σ2 59 t = ((rd t : Nat) : Int)) → σ2 58 i = ((curB S s i j : Nat) : Int) → σ2 59 i = (if prtB S s i j then (turn : Int) else ((rd i : Nat) : Int)) → GX8_part_39 X turn (if anyB S s i || prtB S s i j then 1 else 0) i j σ2 Q := by
        intro e
        induction e with
        | zero =>
          intro j hj σ2 f2 b2 c2 d2 p2 q2
          have hj : j = S.1 := by omega
          subst hj
          have e : σ2 1 1 = (S.1 : Int) := by rw [f2 1 1 (by omega)]; exact h1
          have ce : prtB S s i S.1 = chT S s i := rfl
          rw [ce] at q2 ⊢
          rw [curB_end] at p2
          refine rX8_part_39 fun _ => ⟨by omega, fun _ => rX8_part_115 fun _ => ?_, fun z => by omega⟩
          have nx := ih (i + 1) (by omega) σ2 f2 b2 (fun t ht' => ?_) (fun t a b => d2 t (by omega) b)
          · unfold anyB at nx ⊢; rw [any_succ] at nx; exact nx
          · rcases Nat.lt_succ_iff_lt_or_eq.mp ht' with y | rfl
            · exact c2 t y
            · refine ⟨p2, ?_⟩
              rw [q2]
              unfold rdN
              split <;> rfl
        | succ e ihe =>
          intro j hj σ2 f2 b2 c2 d2 p2 q2
          have e1 : σ2 1 1 = (S.1 : Int) := by rw [f2 1 1 (by omega)]; exact h1
          have cl := clsB_lt h8 s i
          have cbit : (clsB S s i).testBit j = true ↔ s j = s i := by unfold clsB; rw [bsN_bit]; simp; omega
          have pe : prtB S s i (j + 1) = (prtB S s i j || (decide (s j = s i) && !alk S s j i)) := any_succ _ _
          have asym : alk S s j i = alk S s i j := by
            have hE := alk_eqv S s
            cases a : alk S s j i <;> cases b : alk S s i j
            · rfl
            · rw [hE.2.1 _ _ b] at a; cases a
            · rw [hE.2.1 _ _ a] at b; cases b
            · rfl
          have skip : ¬ (s j = s i ∧ alk S s j i = false) → GX8_part_109 X turn (if anyB S s i || prtB S s i j then 1 else 0) i j σ2 Q := fun y => by
            have fe : (decide (s j = s i) && !alk S s j i) = false := by
              by_cases a : s j = s i
              · have : alk S s j i = true := by
                  cases b : alk S s j i with
                  | true => rfl
                  | false => exact absurd ⟨a, b⟩ y
                rw [this]; simp
              · simp [a]
            rw [fe, Bool.or_false] at pe
            refine rX8_part_109 fun _ => ?_
            have nx := ihe (j + 1) (by omega) σ2 f2 b2 c2 d2 ?_ (by rw [pe]; exact q2)
            · rw [pe] at nx; exact nx
            · rw [p2]
              congr 1
              refine bsN_congr _ fun o hoo => ?_
              by_cases q : o = j
              · subst q
                by_cases a : s o = s i
                · have : alk S s o i = true := by
                    cases b : alk S s o i with
                    | true => rfl
                    | false => exact absurd ⟨a, b⟩ y
                  rw [this]; simp
                · simp [a]
              · rw [show decide (j ≤ o) = decide (j + 1 ≤ o) from decide_eq_decide.mpr (by omega)]
          refine rX8_part_39 fun _ => ⟨by omega, fun z => by omega, fun _ => ⟨by omega, fun z => by omega, fun _ => ⟨by omega, ?_⟩⟩⟩
          rw [show σ2 60 ((i : Int).toNat) = ((clsB S s i : Nat) : Int) from b2 i (by omega), bit_is (by omega) (by omega)]
          refine ⟨fun z => skip fun y => z (cbit.mpr y.1), fun z => ?_⟩
          have hsj := cbit.mp z
          refine s_hasAsMany (h.frame' fun c k y => f2 c k (by omega)) ho b2 (by omega) (by omega) fun _ => ?_
          have ae : alk S s i j = many S s i j := by unfold alk; rw [decide_eq_true hsj.symm, Bool.true_and]
          by_cases hm' : many S s i j = true
          · rw [if_pos hm']
            refine ⟨by decide, fun _ => skip fun y => ?_, fun y => absurd y (by decide)⟩
            have y2 := y.2
            rw [asym, ae, hm'] at y2; cases y2
          · rw [if_neg hm']
            have af : alk S s j i = false := by rw [asym, ae]; simpa using hm'
            have fe : (decide (s j = s i) && !alk S s j i) = true := by rw [af]; simp [hsj]
            rw [fe, Bool.or_true] at pe
            have cu := bsN_256 (n := S.1) h8 (fun o => decide (s o = s i) && (decide (j ≤ o) || alk S s o i))
            have cu' : curB S s i j < 256 := cu
            refine ⟨by decide, fun y => absurd rfl y, fun _ => ⟨by omega, by omega, by omega, by omega, rX8_part_109 fun _ => ?_⟩⟩
            have p8 := pow_lt8 (n := j) (by omega)
            rw [show ((i : Int).toNat) = i from rfl, p2, zshl_one (by omega), zandn_nat (by omega) (by omega)]
            have nx := ihe (j + 1) (by omega) (up2 (up2 σ2 58 i ((ndf (curB S s i j) (2 ^ j) : Nat) : Int)) 59 i (turn : Int)) (fun c k y => by rw [up2_nc _ _ (by omega), up2_nc _ _ (by omega)]; exact f2 c k y) (fun k hk => by rw [up2_nc _ _ (by decide), up2_nc _ _ (by decide)]; exact b2 k hk) (fun t ht' => by rw [up2_nc _ _ (show (58 : Nat) ≠ 59 by decide), up2_nk _ _ (by omega), up2_nk _ _ (by omega), up2_nc _ _ (show (59 : Nat) ≠ 58 by decide)]; exact c2 t ht') (fun t a b => by rw [up2_nc _ _ (show (58 : Nat) ≠ 59 by decide), up2_nk _ _ (by omega), up2_nk _ _ (by omega), up2_nc _ _ (show (59 : Nat) ≠ 58 by decide)]; exact d2 t a b) ?_ (by rw [up2_s, pe, if_pos rfl])
            · rw [pe, Bool.or_true, if_pos rfl] at nx; exact nx
            · rw [up2_nc _ _ (by decide), up2_s]
              congr 1
              apply Nat.eq_of_testBit_eq
              intro o
              rw [ndf_bit, Nat.testBit_two_pow]
              unfold curB
              rw [bsN_bit, bsN_bit]
              by_cases q : o = j
              · subst q
                rw [af]; simp
              · rw [decide_eq_false (show ¬ j = o by omega), show decide (j ≤ o) = decide (j + 1 ≤ o) from decide_eq_decide.mpr (by omega)]; simp
      have nx := inner S.1 0 (by omega) σ1 f1 b1 c1 (fun t a b => d1 t (by omega) b) (by
        rw [(d1 i (Nat.le_refl _) (by omega)).1]
        congr 1
        exact bsN_congr _ fun o _ => by simp) (by rw [(d1 i (Nat.le_refl _) (by omega)).2]; rfl)
      have e0 : prtB S s i 0 = false := rfl
      rw [e0, Bool.or_false] at nx
      exact nx
  have nx := outer S.1 0 (by omega) (cpy8 σ 58 60) (fun c k y => by unfold cpy8; rw [if_neg (by omega)]) g60 (fun t a => by omega) (fun t _ b => by unfold cpy8; rw [if_neg (by omega), if_neg (by omega)]; exact ht t b)
  have e0 : anyB S s 0 = false := rfl
  rw [e0] at nx
  exact nx
