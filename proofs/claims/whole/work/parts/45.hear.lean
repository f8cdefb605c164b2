/-! hears, tells, ends: the class -/
def bttr (T : Nat → Nat) (C : Nat → Int) (k o : Nat) : Bool := decide (pc8 (T k) < pc8 (T o) ∨ (pc8 (T k) = pc8 (T o) ∧ C k < C o))
def saidF (T : Nat → Nat) (C : Nat → Int) (t : Nat) : Nat → Int
  | 0 => -1
  | k + 1 => if (T k).testBit t = true ∧ (saidF T C t k = -1 ∨ bttr T C k (saidF T C t k).toNat = true) then (k : Int) else saidF T C t k
theorem saidF_rng (T : Nat → Nat) (C : Nat → Int) (t : Nat) : ∀ k, saidF T C t k = -1 ∨ (0 ≤ saidF T C t k ∧ saidF T C t k < k)
  | 0 => Or.inl rfl
  | k + 1 => by
    have e : saidF T C t (k + 1) = (if (T k).testBit t = true ∧ (saidF T C t k = -1 ∨ bttr T C k (saidF T C t k).toNat = true) then (k : Int) else saidF T C t k) := rfl
    rw [e]
    split
    · exact Or.inr ⟨by omega, by omega⟩
    · rcases saidF_rng T C t k with h | h
      · exact Or.inl h
      · exact Or.inr ⟨h.1, by omega⟩
def deepF (T : Nat → Nat) (C : Nat → Int) (n nt k : Nat) : Nat := bsN nt (fun t => decide (saidF T C t n = (k : Int)))
def nextT (T : Nat → Nat) (C : Nat → Int) (n nt : Nat) : Nat → Nat := fun k => if deepF T C n nt k = 0 then T k else deepF T C n nt k
def thinkN (T : Nat → Nat) (C : Nat → Int) (n nt : Nat) : Nat → Nat → Nat
  | 0 => T
  | d + 1 => nextT (thinkN T C n nt d) C n nt
def chgF (T U : Nat → Nat) : Nat → Int
  | 0 => 0
  | k + 1 => if U k ≠ T k then 1 else chgF T U k
def hstC (n : Nat) (T : Nat → Nat) (C : Nat → Int) (σ : Sg) : Prop := σ 61 3 = (n : Int) ∧ n ≤ 8 ∧ (∀ k, k < n → T k < 256) ∧ ∀ k, k < n → σ 62 k = (T k : Nat) ∧ σ 64 k = C k
theorem s_isBetter {X : Cx} {σ : Sg} {Q : Int → Sg → Prop} {n : Nat} {T : Nat → Nat} {C : Nat → Int} {k o : Nat} (h : hstC n T C σ) (hk : k < n) (ho : o < n) (K : Q (if bttr T C k o then 1 else 0) σ) : KX1_isBetter X k o σ Q := by
  obtain ⟨h1, h8, hT, hv⟩ := h
  have a := hv k hk
  have b := hv o ho
  have pk := pc8_le (T k)
  have po := pc8_le (T o)
  refine eX1_isBetter (rX1_isBetter_0 fun _ => ⟨by omega, ?_⟩)
  rw [show σ 62 ((k : Int).toNat) = (T k : Nat) from a.1]
  refine s_bitCount (hT k hk) fun _ => ⟨by omega, ?_⟩
  rw [show σ 62 ((o : Int).toNat) = (T o : Nat) from b.1]
  refine s_bitCount (hT o ho) fun _ => ⟨by omega, fun z => ?_, fun z => ⟨by omega, fun z2 => ?_, fun z2 => ⟨by omega, by omega, ?_⟩⟩⟩
  · rw [if_pos (by unfold bttr; simp; omega)] at K; exact K
  · rw [if_neg (by unfold bttr; simp; omega)] at K; exact K
  · rw [show σ 64 ((k : Int).toNat) = C k from a.2, show σ 64 ((o : Int).toNat) = C o from b.2]
    refine ⟨fun y => ?_, fun y => ?_⟩
    · rw [if_neg (by unfold bttr; simp; omega)] at K; exact K
    · rw [if_pos (by unfold bttr; simp; omega)] at K; exact K
theorem s_saidOf {X : Cx} {σ : Sg} {Q : Int → Sg → Prop} {n : Nat} {T : Nat → Nat} {C : Nat → Int} {t : Nat} (h : hstC n T C σ) (ht : t < 8) (K : Q (saidF T C t n) σ) : KX1_saidOf X t σ Q := by
  obtain ⟨h1, h8, hT, hv⟩ := id h
  refine eX1_saidOf (rX1_saidOf_0 fun _ => ?_)
  have loop : ∀ d i : Nat, i + d = n → GX1_saidOf_4 X t (saidF T C t i) i σ Q := by
    intro d
    induction d with
    | zero =>
      intro i hi
      have : i = n := by omega
      subst this
      exact rX1_saidOf_4 fun _ => ⟨by omega, fun _ => K, fun z => by omega⟩
    | succ d ih =>
      intro i hi
      have nx := ih (i + 1) (by omega)
      have e : saidF T C t (i + 1) = (if (T i).testBit t = true ∧ (saidF T C t i = -1 ∨ bttr T C i (saidF T C t i).toNat = true) then (i : Int) else saidF T C t i) := rfl
      rw [e] at nx
      have rg := saidF_rng T C t i
      have hTi := hT i (by omega)
      have no : ¬ ((T i).testBit t = true ∧ (saidF T C t i = -1 ∨ bttr T C i (saidF T C t i).toNat = true)) → GX1_saidOf_48 X t (saidF T C t i) i σ Q := fun y => by
        rw [if_neg y] at nx; exact rX1_saidOf_48 fun _ => nx
      have yes : ((T i).testBit t = true ∧ (saidF T C t i = -1 ∨ bttr T C i (saidF T C t i).toNat = true)) → GX1_saidOf_46 X t (saidF T C t i) i σ Q := fun y => by
        rw [if_pos y] at nx; exact rX1_saidOf_46 fun _ => rX1_saidOf_48 fun _ => nx
      refine rX1_saidOf_4 fun _ => ⟨by omega, fun z => by omega, fun _ => ⟨by omega, fun z => by omega, fun _ => ⟨by omega, ?_⟩⟩⟩
      rw [show σ 62 ((i : Int).toNat) = (T i : Nat) from (hv i (by omega)).1, bit_is (by omega) (by omega)]
      refine ⟨fun z => no (fun y => z y.1), fun z => ⟨by omega, fun y => yes ⟨z, Or.inl y⟩, fun y => ?_⟩⟩
      obtain ⟨o, ho⟩ : ∃ o : Nat, saidF T C t i = o := ⟨(saidF T C t i).toNat, by omega⟩
      rw [ho] at no yes rg ⊢
      refine s_isBetter h (by omega) (by omega) fun _ => ?_
      by_cases hb : bttr T C i o = true
      · rw [if_pos hb]
        exact ⟨by decide, fun u => absurd u (by decide), fun _ => yes ⟨z, Or.inr hb⟩⟩
      · rw [if_neg hb]
        exact ⟨by decide, fun _ => no (fun u => by rcases u.2 with v | v; omega; exact hb v), fun u => absurd rfl u⟩
  exact loop n 0 (by omega)
theorem deepF_lt {T : Nat → Nat} {C : Nat → Int} {n nt k : Nat} (h : nt ≤ 8) : deepF T C n nt k < 256 := bsN_256 h _
theorem s_deepen {X : Cx} {σ : Sg} {Q : Int → Sg → Prop} {n nt : Nat} {T : Nat → Nat} {C : Nat → Int} (h : hstC n T C σ) (hnt : nt ≤ 8) (K : ∀ σ', (∀ c k, c ≠ 62 → c ≠ 63 → σ' c k = σ c k) → hstC n (nextT T C n nt) C σ' → Q (chgF T (nextT T C n nt) n) σ') : KX1_deepen X nt σ Q := by
  obtain ⟨h1, h8, hT, hv⟩ := id h
  refine eX1_deepen (rX1_deepen_0 fun _ => s_fill (c0 := 63) (nc0 := 8) rfl (by decide) (by decide) fun σa f1 f2 _ => ?_)
  have part2 : ∀ (σ1 : Sg) (v : Int), (∀ c k, c ≠ 63 → σ1 c k = σ c k) → (∀ k, k < 8 → σ1 63 k = (deepF T C n nt k : Nat)) → GX1_deepen_54 X nt v σ1 Q := by
    intro σ1 v g1 g2
    refine rX1_deepen_54 fun _ => ?_
    have loop : ∀ d i : Nat, i + d = n → ∀ σ2 : Sg, (∀ c k, c ≠ 62 → σ2 c k = σ1 c k) → (∀ k, k < i → σ2 62 k = (nextT T C n nt k : Nat)) → (∀ k, i ≤ k → k < n → σ2 62 k = (T k : Nat)) → GX1_deepen_58 X nt (chgF T (nextT T C n nt) i) i σ2 Q := by
      intro d
      induction d with
      | zero =>
        intro i hi σ2 k1 k2 k3
        have : i = n := by omega
        subst this
        have e : σ2 61 3 = (i : Int) := by rw [k1 61 3 (by decide), g1 61 3 (by decide)]; exact h1
        have c01 : ∀ k, chgF T (nextT T C i nt) k = 0 ∨ chgF T (nextT T C i nt) k = 1 := by
          intro k
          induction k with
          | zero => exact Or.inl rfl
          | succ k ih =>
            show (if nextT T C i nt k ≠ T k then (1 : Int) else chgF T (nextT T C i nt) k) = 0 ∨ (if nextT T C i nt k ≠ T k then (1 : Int) else chgF T (nextT T C i nt) k) = 1
            split
            · exact Or.inr rfl
            · exact ih
        refine rX1_deepen_58 fun _ => ⟨by omega, fun _ => ⟨c01 i, K σ2 (fun c k a b => by rw [k1 c k a, g1 c k b]) ⟨e, h8, fun k hk => ?_, fun k hk => ⟨k2 k hk, by rw [k1 64 k (by decide), g1 64 k (by decide)]; exact (hv k hk).2⟩⟩⟩, fun z => by omega⟩
        unfold nextT
        split
        · exact hT k hk
        · exact deepF_lt hnt
      | succ d ih =>
        intro i hi σ2 k1 k2 k3
        have e : σ2 61 3 = (n : Int) := by rw [k1 61 3 (by decide), g1 61 3 (by decide)]; exact h1
        have e63 : σ2 63 ((i : Int).toNat) = (deepF T C n nt i : Nat) := by rw [show ((i : Int).toNat) = i from rfl, k1 63 i (by decide)]; exact g2 i (by omega)
        have e62 : σ2 62 ((i : Int).toNat) = (T i : Nat) := k3 i (Nat.le_refl _) (by omega)
        have ce : chgF T (nextT T C n nt) (i + 1) = (if nextT T C n nt i ≠ T i then (1 : Int) else chgF T (nextT T C n nt) i) := rfl
        have ne : nextT T C n nt i = (if deepF T C n nt i = 0 then T i else deepF T C n nt i) := rfl
        have same : nextT T C n nt i = T i → GX1_deepen_110 X nt (chgF T (nextT T C n nt) i) i σ2 Q := fun y => by
          refine rX1_deepen_110 fun _ => ?_
          have := ih (i + 1) (by omega) σ2 k1 (fun k hk => ?_) (fun k a b => k3 k (by omega) b)
          · rw [ce, if_neg (by simpa using y)] at this; exact this
          · rcases Nat.lt_succ_iff_lt_or_eq.mp hk with q | rfl
            · exact k2 k q
            · rw [y]; exact k3 k (Nat.le_refl _) (by omega)
        refine rX1_deepen_58 fun _ => ⟨by omega, fun z => by omega, fun _ => ⟨by omega, fun z => by omega, fun _ => ⟨by omega, ?_⟩⟩⟩
        rw [e63, e62]
        refine ⟨fun z => same (by rw [ne, if_pos (by omega)]), fun z => ⟨by omega, by omega, fun y => same (by rw [ne, if_neg (by omega)]; omega), fun y => ⟨by omega, by omega, rX1_deepen_110 fun _ => ?_⟩⟩⟩
        rw [show ((i : Int).toNat) = i from rfl]
        have ne' : nextT T C n nt i = deepF T C n nt i := by rw [ne, if_neg (by omega)]
        have := ih (i + 1) (by omega) (up2 σ2 62 i (deepF T C n nt i : Nat)) (fun c k a => by rw [up2_nc _ _ a]; exact k1 c k a) (fun k hk => ?_) (fun k a b => by rw [up2_nk _ _ (by omega)]; exact k3 k (by omega) b)
        · rw [ce, if_pos (by rw [ne']; omega)] at this; exact this
        · by_cases q : k = i
          · rw [q, up2_s, ne']
          · rw [up2_nk _ _ q]; exact k2 k (by omega)
    exact loop n 0 (by omega) σ1 (fun _ _ _ => rfl) (fun k hk => by omega) (fun k _ b => by rw [g1 62 k (by decide)]; exact (hv k b).1)
  have loop : ∀ d i : Nat, i + d = nt → ∀ σ1 : Sg, (∀ c k, c ≠ 63 → σ1 c k = σ c k) → (∀ k, k < 8 → σ1 63 k = (bsN i (fun t => decide (saidF T C t n = (k : Int))) : Nat)) → GX1_deepen_10 X nt i σ1 Q := by
    intro d
    induction d with
    | zero =>
      intro i hi σ1 g1 g2
      have : i = nt := by omega
      subst this
      exact rX1_deepen_10 fun _ => ⟨by omega, by omega, fun _ => part2 σ1 _ g1 g2, fun z => by omega⟩
    | succ d ih =>
      intro i hi σ1 g1 g2
      have h' : hstC n T C σ1 := ⟨by rw [g1 61 3 (by decide)]; exact h1, h8, hT, fun k hk => by rw [g1 62 k (by decide), g1 64 k (by decide)]; exact hv k hk⟩
      refine rX1_deepen_10 fun _ => ⟨by omega, by omega, fun z => by omega, fun _ => ⟨by omega, fun z => by omega, fun _ => s_saidOf h' (by omega) fun _ => ?_⟩⟩
      have rg := saidF_rng T C i n
      refine s_isWithin (by omega) (by decide) fun _ => ?_
      by_cases q : saidF T C i n = -1
      · rw [if_neg (by omega)]
        refine ⟨by decide, fun _ => rX1_deepen_48 fun _ => ih (i + 1) (by omega) σ1 g1 fun k hk => ?_, fun z => absurd rfl z⟩
        rw [bs_out (by simp; omega)]; exact g2 k hk
      · rw [if_pos (by omega)]
        obtain ⟨o, ho⟩ : ∃ o : Nat, saidF T C i n = o := ⟨(saidF T C i n).toNat, by omega⟩
        rw [ho] at rg ⊢
        refine ⟨by decide, fun z => absurd z (by decide), fun _ => ⟨by omega, by omega, rX1_deepen_48 fun _ => ih (i + 1) (by omega) _ (fun c k a => by rw [up2_nc _ _ a]; exact g1 c k a) fun k hk => ?_⟩⟩
        rw [show ((o : Int).toNat) = o from rfl]
        by_cases y : k = o
        · rw [y, up2_s, g2 o (by omega)]
          exact bs_in (by omega) (by simp [ho])
        · rw [up2_nk _ _ y, bs_out (by simp; omega)]; exact g2 k hk
  exact loop nt 0 (by omega) σa f1 fun k hk => f2 k hk
