/-! SAYINGS' costs and copies (the class's); THE SCENE AND SAYINGS OF THE REFERENCE -/
def costL (P : Nat → Int) : List Nat → Int
  | [] => 0
  | x :: xs => P (x / 8) + costL P xs
def okP (P : Nat → Int) : Prop := ∀ w, w < 15 → 1 ≤ P w ∧ P w ≤ 9
theorem getD_mem {L : List Nat} {i : Nat} (h : i < L.length) : L.getD i 0 ∈ L := by
  rw [List.getD_eq_getElem?_getD, List.getElem?_eq_getElem h]
  exact List.getElem_mem _
theorem s_cost {X : Cx} {σ : Sg} {Q : Int → Sg → Prop} {P : Nat → Int} {c0 : Nat} {L : List Nat} (hP : ∀ w, w < 15 → σ 11 w = P w) (hs : isSay c0) (hL : hasS c0 L σ) (hok : okC L) (k : Q (costL P L) σ) : KX4_cost X c0 σ Q := by
  obtain ⟨hl, h24, hcod⟩ := hL
  refine eX4_cost (rX4_cost_0 hs fun _ => ?_)
  have loop : ∀ d i : Nat, i + d = L.length → ∀ a : Int, a + costL P (L.drop i) = costL P L → GX4_cost_4 X c0 a i σ Q := by
    intro d
    induction d with
    | zero =>
      intro i hi a ha
      have : i = L.length := by omega
      subst this
      rw [List.drop_length] at ha
      have e : a = costL P L := by rw [← ha]; show a = a + 0; omega
      refine rX4_cost_4 hs fun _ => ⟨by omega, fun _ => ?_, fun h => by omega⟩
      rw [e]; exact k
    | succ d ih =>
      intro i hi a ha
      have hx : L.getD i 0 < 120 := hok _ (getD_mem (by omega))
      rw [getD_drop (by omega)] at ha
      have e := hcod i (by omega)
      generalize L.getD i 0 = x at hx ha e
      refine rX4_cost_4 hs fun _ => ⟨by omega, fun h => by omega, fun _ => ⟨by omega, fun h => by omega, fun _ => ⟨by omega, ?_⟩⟩⟩
      rw [show ((i : Int).toNat) = i from rfl, e, shr3 (by omega)]
      refine s_isWithin (by omega) (by omega) fun _ => ?_
      rw [if_pos (by omega)]
      refine ⟨by omega, fun h => by omega, fun _ => ⟨by omega, ?_⟩⟩
      rw [show (((x / 8 : Nat) : Int).toNat) = x / 8 from rfl, hP _ (by omega)]
      refine rX4_cost_47 hs fun _ => ?_
      have := ih (i + 1) (by omega) (a + P (x / 8)) (by rw [← ha]; show _ = a + (P (x / 8) + costL P (L.drop (i + 1))); omega)
      exact this
  exact loop L.length 0 (by omega) 0 (by rw [List.drop_zero]; omega)
theorem s_add {X : Cx} {σ : Sg} {Q : Int → Sg → Prop} {c0 n : Nat} {v : Int} (hs : isSay c0) (hn : σ c0 2 = (n : Int)) (h24 : n < 24) (hv : inI v) (k : Q 1 (up2 (up2 σ c0 2 ((n + 1 : Nat) : Int)) (c0 + 1) n v)) : KX4_add X c0 v σ Q := by
  refine eX4_add (rX4_add_0 hs fun _ => ?_)
  rw [hn]
  exact ⟨fun _ => ⟨by omega, by omega, hv, k⟩, fun h => by omega⟩
theorem s_addFull {X : Cx} {σ : Sg} {Q : Int → Sg → Prop} {c0 : Nat} {v : Int} (hs : isSay c0) (hn : 24 ≤ σ c0 2) (k : Q 0 σ) : KX4_add X c0 v σ Q :=
  eX4_add (rX4_add_0 hs fun _ => ⟨fun h => by omega, fun _ => k⟩)
theorem s_copy {X : Cx} {σ : Sg} {Q : Int → Sg → Prop} {c0 : Nat} {L : List Nat} (hs : isSay c0) (h14 : c0 ≠ 14) (hL : hasS 14 L σ) (hok : okC L) (k : ∀ σ', (∀ c j, c ≠ c0 → c ≠ c0 + 1 → σ' c j = σ c j) → hasS c0 L σ' → Q 0 σ') : KX4_copy X c0 σ Q := by
  have hc := say_cases hs
  obtain ⟨hl, h24, hcod⟩ := hL
  refine eX4_copy (rX4_copy_0 hs fun _ => ?_)
  have loop : ∀ d i : Nat, i + d = L.length → ∀ σ1 : Sg, (∀ c j, c ≠ c0 → c ≠ c0 + 1 → σ1 c j = σ c j) → σ1 c0 2 = (i : Int) → (∀ j, j < i → σ1 (c0 + 1) j = ((L.getD j 0 : Nat) : Int)) → GX4_copy_7 X c0 i σ1 Q := by
    intro d
    induction d with
    | zero =>
      intro i hi σ1 hf h1 h2
      have e : σ1 14 2 = (L.length : Int) := by rw [hf 14 2 (by omega) (by omega)]; exact hl
      have : i = L.length := by omega
      subst this
      exact rX4_copy_7 hs fun _ => ⟨by omega, fun _ => k σ1 hf ⟨h1, h24, h2⟩, fun h => by omega⟩
    | succ d ih =>
      intro i hi σ1 hf h1 h2
      have e : σ1 14 2 = (L.length : Int) := by rw [hf 14 2 (by omega) (by omega)]; exact hl
      have e2 : σ1 15 i = ((L.getD i 0 : Nat) : Int) := by rw [hf 15 i (by omega) (by omega)]; exact hcod i (by omega)
      have hx : L.getD i 0 < 120 := hok _ (getD_mem (by omega))
      refine rX4_copy_7 hs fun _ => ⟨by omega, fun h => by omega, fun _ => ⟨by omega, fun h => by omega, fun _ => ⟨by omega, ?_⟩⟩⟩
      rw [show ((i : Int).toNat) = i from rfl, e2]
      refine s_add hs h1 (by omega) (by omega) fun _ => ?_
      refine ih (i + 1) (by omega) _ (fun c j a b => by rw [up2_nc _ _ b, up2_nc _ _ a]; exact hf c j a b) (by rw [up2_nc _ _ (by omega), up2_s]) (fun j hj => ?_)
      by_cases q : j = i
      · subst q; rw [up2_s]
      · rw [up2_nk _ _ q, up2_nc _ _ (by omega)]; exact h2 j (by omega)
  exact loop L.length 0 (by omega) (up2 σ c0 2 0) (fun c j a b => up2_nc _ _ a) (up2_s _ _ _ _) (fun j hj => by omega)
/-! the reference -/
def besS (S : Sc) (t : Nat) : Nat := bsN S.1 (fun o => decide (S.2 4 o - S.2 4 t = 1 ∨ S.2 4 t - S.2 4 o = 1))
def frS (S : Sc) (t : Nat) : Nat := bsN S.1 (fun o => (S.2 6 o).toNat.testBit t)
def okB2 (S : Sc) : Prop := ∀ t, t < S.1 → S.2 5 t = (besS S t : Nat) ∧ S.2 7 t = (frS S t : Nat)
def atM (S : Sc) (σ : Sg) : Prop := σ 69 0 = (S.1 : Int) ∧ S.1 ≤ 8 ∧ ∀ t, t < S.1 → σ 70 t = S.2 0 t ∧ σ 71 t = S.2 1 t ∧ σ 72 t = S.2 2 t ∧ σ 73 t = S.2 3 t ∧ σ 74 t = S.2 4 t ∧ σ 75 t = S.2 6 t
theorem m_in {X : Cx} {σ : Sg} {Q : Int → Sg → Prop} {v a b : Int} (hv : inI v) (ha : inI a) (hb : inI b) (k : Q (if a ≤ v ∧ v ≤ b then 1 else 0) σ) : KX12_in X v a b σ Q := by
  refine eX12_in (rX12_in_0 fun _ => ⟨hv, ha, fun h => ?_, fun h => ⟨hv, hb, fun h2 => ?_, fun h2 => ?_⟩⟩)
  · rw [if_neg (by omega)] at k; exact k
  · rw [if_neg (by omega)] at k; exact k
  · rw [if_pos ⟨h, h2⟩] at k; exact k
theorem m_isThing {X : Cx} {σ : Sg} {Q : Int → Sg → Prop} {v : Int} {n : Nat} (hn : σ 69 0 = (n : Int)) (h8 : n ≤ 8) (hv : inI v) (k : Q (if 0 ≤ v ∧ v < n then 1 else 0) σ) : KX12_isThing X v σ Q := by
  refine eX12_isThing (rX12_isThing_0 fun _ => m_in hv (by omega) (by omega) fun _ => ⟨?_, ?_⟩)
  · split
    · exact Or.inr rfl
    · exact Or.inl rfl
  · rw [hn]
    by_cases q : 0 ≤ v ∧ v < n
    · rw [if_pos q] at k; rw [if_pos (by omega)]; exact k
    · rw [if_neg q] at k; rw [if_neg (by omega)]; exact k
theorem m_needs {X : Cx} {σ : Sg} {Q : Int → Sg → Prop} {w : Nat} (hw : w < 15) (k : Q (prt w : Nat) σ) : KX12_needs X w σ Q := by
  unfold prt at k
  refine eX12_needs (rX12_needs_0 fun _ => ⟨by omega, fun h => ⟨by omega, fun h2 => ?_, fun h2 => ⟨by omega, fun h3 => ?_, fun h3 => ?_⟩⟩, fun h => ?_⟩)
  · rw [if_neg (by omega), if_neg (by omega)] at k; exact k
  · rw [if_neg (by omega), if_neg (by omega)] at k; exact k
  · rw [if_neg (by omega), if_pos (by omega)] at k; exact k
  · rw [if_pos (by omega)] at k; exact k
theorem m_bits {X : Cx} {σ : Sg} {Q : Int → Sg → Prop} {s : Nat} (hs : s < 256) (k : Q (pc8 s : Nat) σ) : KX12_bits X s σ Q := by
  refine eX12_bits (rX12_bits_0 fun _ => ?_)
  have st : ∀ (i : Nat) (a : Int), i < 8 → GX12_bits_4 X s (a + (if s.testBit i then 1 else 0 : Int)) ((i : Int) + 1) σ Q → GX12_bits_4 X s a i σ Q := by
    intro i a hi h
    refine rX12_bits_4 fun _ => ⟨by omega, fun h => by omega, fun _ => ?_⟩
    rw [bit_iff (by omega) (by omega)]
    exact h
  refine st 0 0 (by decide) (st 1 _ (by decide) (st 2 _ (by decide) (st 3 _ (by decide) (st 4 _ (by decide) (st 5 _ (by decide) (st 6 _ (by decide) (st 7 _ (by decide) ?_)))))))
  refine rX12_bits_4 fun _ => ⟨by decide, fun _ => ?_, fun h => absurd h (by decide)⟩
  have e : (0 : Int) + (if s.testBit 0 then 1 else 0 : Int) + (if s.testBit 1 then 1 else 0 : Int) + (if s.testBit 2 then 1 else 0 : Int) + (if s.testBit 3 then 1 else 0 : Int) + (if s.testBit 4 then 1 else 0 : Int) + (if s.testBit 5 then 1 else 0 : Int) + (if s.testBit 6 then 1 else 0 : Int) + (if s.testBit 7 then 1 else 0 : Int) = ((pc8 s : Nat) : Int) := by
    unfold pc8
    have c : ∀ b : Bool, (if b = true then 1 else 0 : Int) = ((if b = true then 1 else 0 : Nat) : Int) := by intro b; cases b <;> rfl
    rw [c, c, c, c, c, c, c, c]
    omega
  rw [e]
  exact k
theorem m_every {X : Cx} {σ : Sg} {Q : Int → Sg → Prop} {S : Sc} (h : atM S σ) (k : Q (F_all S : Nat) σ) : KX12_every X σ Q := by
  refine eX12_every (rX12_every_0 fun _ => ?_)
  have h8 := h.2.1
  rw [h.1, zshl_one (by omega)]
  have e : ((2 ^ S.1 : Nat) : Int) - 1 = ((F_all S : Nat) : Int) := by
    unfold F_all
    have := Nat.two_pow_pos S.1
    omega
  rw [e]; exact k
theorem m_besides {X : Cx} {σ : Sg} {Q : Int → Sg → Prop} {S : Sc} {t : Nat} (h : atM S σ) (ho : okR S) (ht : t < S.1) (k : Q (besS S t : Nat) σ) : KX12_besides X t σ Q := by
  obtain ⟨hn, h8, hr⟩ := h
  refine eX12_besides (rX12_besides_0 fun _ => ?_)
  have loop : ∀ d i : Nat, i + d = S.1 → GX12_besides_4 X t ((bsN i (fun o => decide (S.2 4 o - S.2 4 t = 1 ∨ S.2 4 t - S.2 4 o = 1)) : Nat) : Int) i σ Q := by
    intro d
    induction d with
    | zero =>
      intro i hi
      have : i = S.1 := by omega
      subst this
      exact rX12_besides_4 fun _ => ⟨by omega, fun _ => k, fun h => by omega⟩
    | succ d ih =>
      intro i hi
      have e1 : σ 74 ((i : Int).toNat) = S.2 4 i := (hr i (by omega)).2.2.2.2.1
      have e2 : σ 74 ((t : Int).toNat) = S.2 4 t := (hr t ht).2.2.2.2.1
      have p1 := (ho i (by omega)).2.2.2.2.1
      have p2 := (ho t ht).2.2.2.2.1
      have hb := bsN_lt (fun o => decide (S.2 4 o - S.2 4 t = 1 ∨ S.2 4 t - S.2 4 o = 1)) i
      have h2 : 2 ^ i ≤ 2 ^ 8 := Nat.pow_le_pow_right (by decide) (by omega)
      refine rX12_besides_4 fun _ => ⟨by omega, fun h => by omega, fun _ => ⟨by omega, by omega, ?_⟩⟩
      rw [e1, e2]
      have yes : (S.2 4 i - S.2 4 t = 1 ∨ S.2 4 t - S.2 4 i = 1) → GX12_besides_47 X t ((bsN i (fun o => decide (S.2 4 o - S.2 4 t = 1 ∨ S.2 4 t - S.2 4 o = 1)) : Nat) : Int) i ((bsN i (fun o => decide (S.2 4 o - S.2 4 t = 1 ∨ S.2 4 t - S.2 4 o = 1)) : Nat) : Int) σ Q := by
        intro q
        refine rX12_besides_47 fun _ => rX12_besides_54 fun _ => ?_
        rw [bs_in (p := fun o => decide (S.2 4 o - S.2 4 t = 1 ∨ S.2 4 t - S.2 4 o = 1)) (by omega) (by simpa using q)]
        exact ih (i + 1) (by omega)
      refine ⟨by omega, fun q => yes (Or.inl q), fun q => ⟨by omega, by omega, by omega, fun q2 => ?_, fun q2 => yes (Or.inr q2)⟩⟩
      refine rX12_besides_54 fun _ => ?_
      rw [zor_0 (by omega), ← bs_out (p := fun o => decide (S.2 4 o - S.2 4 t = 1 ∨ S.2 4 t - S.2 4 o = 1)) (i := i) (by simp; omega)]
      exact ih (i + 1) (by omega)
  exact loop S.1 0 (by omega)
theorem m_allOf {X : Cx} {σ : Sg} {Q : Int → Sg → Prop} {S : Sc} {w v : Nat} (h : atM S σ) (ho : okR S) (hw : w < 4) (hv : v < 8) (k : Q (F_named S (8 * w + v) : Nat) σ) : KX12_allOf X w v σ Q := by
  obtain ⟨hn, h8, hr⟩ := h
  refine eX12_allOf (rX12_allOf_0 fun _ => ?_)
  have key : ∀ (p : Nat → Bool), F_named S (8 * w + v) = bsN S.1 p → (∀ i, i < S.1 → (p i = true ↔ (w = 0 ∨ (w = 1 ∧ S.2 0 i = (v : Int)) ∨ (w = 2 ∧ S.2 1 i = (v : Int)) ∨ (w = 3 ∧ (S.2 3 i).toNat.testBit v = true)))) → GX12_allOf_5 X w v 0 0 σ Q := by
    intro p hF hp
    rw [hF] at k
    have loop : ∀ d i : Nat, i + d = S.1 → GX12_allOf_5 X w v ((bsN i p : Nat) : Int) i σ Q := by
      intro d
      induction d with
      | zero =>
        intro i hi
        have : i = S.1 := by omega
        subst this
        exact rX12_allOf_5 fun _ => ⟨by omega, fun _ => k, fun h => by omega⟩
      | succ d ih =>
        intro i hi
        have q := hr i (by omega)
        have e0 : σ 70 ((i : Int).toNat) = S.2 0 i := q.1
        have e1 : σ 71 ((i : Int).toNat) = S.2 1 i := q.2.1
        have m7 := (ho i (by omega)).2.2.2.1
        have e3 : σ 73 ((i : Int).toNat) = ((S.2 3 i).toNat : Int) := by rw [show σ 73 ((i : Int).toNat) = S.2 3 i from q.2.2.2.1]; omega
        have hpi := hp i (by omega)
        have hb := bsN_lt p i
        have h2 : 2 ^ i ≤ 2 ^ 8 := Nat.pow_le_pow_right (by decide) (by omega)
        have yes : p i = true → GX12_allOf_70 X w v ((bsN i p : Nat) : Int) i σ Q := fun hh => by
          refine rX12_allOf_70 fun _ => rX12_allOf_75 fun _ => ⟨by decide, fun h => absurd h (by decide), fun _ => rX12_allOf_91 fun _ => ?_⟩
          rw [bs_in (by omega) hh]
          exact ih (i + 1) (by omega)
        have no : ¬ p i = true → GX12_allOf_74 X w v ((bsN i p : Nat) : Int) i σ Q := fun hh => by
          refine rX12_allOf_74 fun _ => rX12_allOf_75 fun _ => ⟨by decide, fun _ => rX12_allOf_91 fun _ => ?_, fun h => absurd rfl h⟩
          rw [zor_0 (by omega), ← bs_out hh]
          exact ih (i + 1) (by omega)
        refine rX12_allOf_5 fun _ => ⟨by omega, fun h => by omega, fun _ => ⟨by omega, fun z => yes (hpi.mpr (Or.inl (by omega))), fun z => ⟨by omega, fun z1 => ?_, fun z1 => ⟨by omega, by omega, ?_⟩⟩⟩⟩
        · refine rX12_allOf_34 fun _ => ⟨by omega, fun z2 => ?_, fun z2 => ⟨by omega, by omega, ?_⟩⟩
          · refine rX12_allOf_50 fun _ => ⟨by omega, fun z3 => by omega, fun z3 => ⟨by omega, ?_⟩⟩
            rw [e3, bit_is (by omega) (by omega)]
            exact ⟨fun y => no (fun t => by rcases hpi.mp t with t | ⟨t, -⟩ | ⟨t, -⟩ | ⟨-, t⟩ <;> first | omega | exact y t), fun y => yes (hpi.mpr (Or.inr (Or.inr (Or.inr ⟨by omega, y⟩))))⟩
          · rw [e1]
            refine ⟨fun y => yes (hpi.mpr (Or.inr (Or.inr (Or.inl ⟨by omega, y⟩)))), fun y => ?_⟩
            exact rX12_allOf_50 fun _ => ⟨by omega, fun _ => no (fun t => by rcases hpi.mp t with t | ⟨t, -⟩ | ⟨-, t⟩ | ⟨t, -⟩ <;> first | omega | exact y t), fun z3 => by omega⟩
        · rw [e0]
          refine ⟨fun y => yes (hpi.mpr (Or.inr (Or.inl ⟨by omega, y⟩))), fun y => ?_⟩
          exact rX12_allOf_34 fun _ => ⟨by omega, fun _ => rX12_allOf_50 fun _ => ⟨by omega, fun _ => no (fun t => by rcases hpi.mp t with t | ⟨-, t⟩ | ⟨t, -⟩ | ⟨t, -⟩ <;> first | omega | exact y t), fun z3 => by omega⟩, fun z2 => by omega⟩
    exact loop S.1 0 (by omega)
  have e8 : (8 * w + v) / 8 = w := by omega
  have e7 : (8 * w + v) % 8 = v := by omega
  rcases (show w = 0 ∨ w = 1 ∨ w = 2 ∨ w = 3 by omega) with rfl | rfl | rfl | rfl
  · refine key (fun _ => true) ?_ (fun i _ => by simp)
    unfold F_named
    rw [e8, if_pos rfl]
    apply Nat.eq_of_testBit_eq
    intro i
    unfold F_all
    rw [Nat.testBit_two_pow_sub_one, bsN_bit, Bool.and_true]
  · refine key (fun i => decide (S.2 0 i = (v : Int))) ?_ (fun i _ => by simp)
    unfold F_named
    rw [e8, e7, if_neg (by decide), if_pos rfl]; rfl
  · refine key (fun i => decide (S.2 1 i = (v : Int))) ?_ (fun i _ => by simp)
    unfold F_named
    rw [e8, e7, if_neg (by decide), if_neg (by decide), if_pos rfl]; rfl
  · refine key (fun i => (S.2 3 i).toNat.testBit v) ?_ (fun i _ => by simp)
    unfold F_named
    rw [e8, e7, if_neg (by decide), if_neg (by decide), if_neg (by decide)]; rfl
theorem m_most {X : Cx} {σ : Sg} {Q : Int → Sg → Prop} {S : Sc} {s : Nat} (h : atM S σ) (ho : okR S) (hs : s < 256) (k : Q (F_most S s : Nat) σ) : KX12_bySize X s 1 σ Q := by
  obtain ⟨hn, h8, hr⟩ := h
  refine eX12_bySize (rX12_bySize_0 fun _ => ?_)
  have loop : ∀ d i : Nat, i + d = S.1 → ∀ (f : Nat) (b : Int), ((f = 0 ∧ b = 0 ∧ ∀ t, t < i → s.testBit t = false) ∨ (f = bsN i (fun t => s.testBit t && decide (S.2 2 t = b)) ∧ (∃ t, t < i ∧ s.testBit t = true ∧ S.2 2 t = b) ∧ ∀ t, t < i → s.testBit t = true → S.2 2 t ≤ b)) → GX12_bySize_8 X s 1 f b i σ Q := by
    intro d
    induction d with
    | zero =>
      intro i hi f b hf
      have : i = S.1 := by omega
      subst this
      refine rX12_bySize_8 fun _ => ⟨by omega, fun _ => ?_, fun h => by omega⟩
      have e : f = F_most S s := by
        rcases hf with ⟨rfl, -, hf⟩ | ⟨rfl, ⟨t, ht, hb, e⟩, hf⟩
        · exact ((bsN_zero _).mpr fun u hu => by simp [hf u hu]).symm
        · rw [← most_eq ho (g := b) hf (Or.inr ⟨t, ht, hb, e⟩)]
          apply Nat.eq_of_testBit_eq
          intro u
          unfold F_with
          rw [Nat.testBit_and, bsN_bit, bsN_bit]
          cases s.testBit u <;> cases decide (u < S.1) <;> rfl
      rw [← e] at k; exact k
    | succ d ih =>
      intro i hi f b hf
      have e : σ 72 ((i : Int).toNat) = S.2 2 i := (hr i (by omega)).2.2.1
      have hz := (ho i (by omega)).2.2.1
      have hb9 : 0 ≤ b ∧ b ≤ 9 := by
        rcases hf with ⟨-, rfl, -⟩ | ⟨-, ⟨t, ht, -, e⟩, -⟩
        · omega
        · have := (ho t (by omega)).2.2.1; omega
      have hf256 : f < 256 := by
        rcases hf with ⟨rfl, -, -⟩ | ⟨rfl, -, -⟩
        · decide
        · exact bsN_256 (by omega) _
      have hf0 : f = 0 → ∀ t, t < i → s.testBit t = false := by
        intro q
        rcases hf with ⟨-, -, hf⟩ | ⟨hf1, ⟨t, ht, hb, e⟩, -⟩
        · exact hf
        · exfalso
          rw [q] at hf1
          have := (bsN_zero i).mp hf1.symm t ht
          simp [hb, e] at this
      refine rX12_bySize_8 fun _ => ⟨by omega, fun h => by omega, fun _ => ?_⟩
      rw [bit_is (by omega) (by omega), e]
      have newb : s.testBit i = true → (∀ t, t < i → s.testBit t = true → S.2 2 t < S.2 2 i) → GX12_bySize_62 X s 1 f b i σ Q := by
        intro hb hlt
        refine rX12_bySize_62 fun _ => rX12_bySize_67 fun _ => ⟨by decide, fun h => absurd h (by decide), fun _ => rX12_bySize_103 fun _ => ⟨by decide, fun h => absurd h (by decide), fun _ => ⟨by omega, rX12_bySize_121 fun _ => rX12_bySize_123 fun _ => ?_⟩⟩⟩
        rw [e, zshl_one (by omega)]
        refine ih (i + 1) (by omega) _ _ (Or.inr ⟨?_, ⟨i, by omega, hb, rfl⟩, fun t ht htb => ?_⟩)
        · have h0 : bsN i (fun t => s.testBit t && decide (S.2 2 t = S.2 2 i)) = 0 := (bsN_zero i).mpr fun t ht => by
            by_cases q : s.testBit t = true
            · have := hlt t ht q; simp [q]; omega
            · simp [q]
          show _ = bsN i _ + _
          rw [h0, if_pos (by simp [hb]), Nat.zero_add]
        · rcases Nat.lt_succ_iff_lt_or_eq.mp ht with q | rfl
          · have := hlt t q htb; omega
          · omega
      have keep : s.testBit i = true → f ≠ 0 → (∀ t, t < i → s.testBit t = true → S.2 2 t ≤ b) → (S.2 2 i ≤ b) → GX12_bySize_66 X s 1 f b i σ Q := by
        intro hb hn0 hall hbi
        obtain ⟨hf1, hex, -⟩ : f = bsN i (fun t => s.testBit t && decide (S.2 2 t = b)) ∧ (∃ t, t < i ∧ s.testBit t = true ∧ S.2 2 t = b) ∧ True := by
          rcases hf with ⟨rfl, -, -⟩ | ⟨a, c, -⟩
          · exact absurd rfl hn0
          · exact ⟨a, c, trivial⟩
        obtain ⟨t0, ht0, hb0, e0⟩ := hex
        refine rX12_bySize_66 fun _ => rX12_bySize_67 fun _ => ⟨by decide, fun _ => ⟨by omega, by omega, fun q => ?_, fun q => ?_⟩, fun h => absurd rfl h⟩
        · rw [e] at q
          refine rX12_bySize_103 fun _ => ⟨by decide, fun _ => rX12_bySize_121 fun _ => rX12_bySize_123 fun _ => ih (i + 1) (by omega) _ _ (Or.inr ⟨?_, ⟨t0, by omega, hb0, e0⟩, fun t ht htb => ?_⟩), fun h => absurd rfl h⟩
          · rw [bs_out (by simp [q])]; exact hf1
          · rcases Nat.lt_succ_iff_lt_or_eq.mp ht with q | rfl
            · exact hall t q htb
            · omega
        · rw [e] at q
          refine rX12_bySize_103 fun _ => ⟨by decide, fun _ => rX12_bySize_121 fun _ => rX12_bySize_123 fun _ => ?_, fun h => absurd rfl h⟩
          rw [hf1, bs_in (p := fun t => s.testBit t && decide (S.2 2 t = b)) (by omega) (by simp [q, hb])]
          refine ih (i + 1) (by omega) _ _ (Or.inr ⟨rfl, ⟨t0, by omega, hb0, e0⟩, fun t ht htb => ?_⟩)
          rcases Nat.lt_succ_iff_lt_or_eq.mp ht with q | rfl
          · exact hall t q htb
          · omega
      refine ⟨fun hb => rX12_bySize_123 fun _ => ih (i + 1) (by omega) f b ?_, fun hb => ⟨by omega, fun q => newb hb (fun t ht htb => ?_), fun q => ?_⟩⟩
      · have hbf : s.testBit i = false := by simpa using hb
        rcases hf with ⟨h1, h2, h3⟩ | ⟨h1, ⟨t, ht, h2, h3⟩, h4⟩
        · refine Or.inl ⟨h1, h2, fun t ht => ?_⟩
          rcases Nat.lt_succ_iff_lt_or_eq.mp ht with q | rfl
          · exact h3 t q
          · exact hbf
        · refine Or.inr ⟨by rw [bs_out (by simp [hbf])]; exact h1, ⟨t, by omega, h2, h3⟩, fun u hu hbu => ?_⟩
          rcases Nat.lt_succ_iff_lt_or_eq.mp hu with q | rfl
          · exact h4 u q hbu
          · exact absurd hbu hb
      · exact absurd htb (by rw [hf0 (by omega) t ht]; decide)
      · have hall : ∀ t, t < i → s.testBit t = true → S.2 2 t ≤ b := by
          rcases hf with ⟨rfl, -, -⟩ | ⟨-, -, h4⟩
          · exact absurd rfl q
          · exact h4
        have hn0 : f ≠ 0 := by omega
        exact ⟨by decide, fun h => absurd h (by decide), fun _ => ⟨by omega, by omega, fun z => keep hb hn0 hall z, fun z => newb hb (fun t ht htb => by have := hall t ht htb; omega)⟩⟩
  exact loop S.1 0 (by omega) 0 0 (Or.inl ⟨rfl, rfl, fun t ht => by omega⟩)
theorem m_leastS {X : Cx} {σ : Sg} {Q : Int → Sg → Prop} {S : Sc} {s : Nat} (h : atM S σ) (ho : okR S) (hs : s < 256) (k : Q (F_least S s : Nat) σ) : KX12_bySize X s 0 σ Q := by
  obtain ⟨hn, h8, hr⟩ := h
  refine eX12_bySize (rX12_bySize_0 fun _ => ?_)
  have loop : ∀ d i : Nat, i + d = S.1 → ∀ (f : Nat) (b : Int), ((f = 0 ∧ b = 0 ∧ ∀ t, t < i → s.testBit t = false) ∨ (f = bsN i (fun t => s.testBit t && decide (S.2 2 t = b)) ∧ (∃ t, t < i ∧ s.testBit t = true ∧ S.2 2 t = b) ∧ ∀ t, t < i → s.testBit t = true → b ≤ S.2 2 t)) → GX12_bySize_8 X s 0 f b i σ Q := by
    intro d
    induction d with
    | zero =>
      intro i hi f b hf
      have : i = S.1 := by omega
      subst this
      refine rX12_bySize_8 fun _ => ⟨by omega, fun _ => ?_, fun h => by omega⟩
      have e : f = F_least S s := by
        rcases hf with ⟨rfl, -, hf⟩ | ⟨rfl, ⟨t, ht, hb, e⟩, hf⟩
        · exact ((bsN_zero _).mpr fun u hu => by simp [hf u hu]).symm
        · rw [← least_eq ho (g := b) hf (Or.inr ⟨t, ht, hb, e⟩)]
          apply Nat.eq_of_testBit_eq
          intro u
          unfold F_with
          rw [Nat.testBit_and, bsN_bit, bsN_bit]
          cases s.testBit u <;> cases decide (u < S.1) <;> rfl
      rw [← e] at k; exact k
    | succ d ih =>
      intro i hi f b hf
      have e : σ 72 ((i : Int).toNat) = S.2 2 i := (hr i (by omega)).2.2.1
      have hz := (ho i (by omega)).2.2.1
      have hb9 : 0 ≤ b ∧ b ≤ 9 := by
        rcases hf with ⟨-, rfl, -⟩ | ⟨-, ⟨t, ht, -, e⟩, -⟩
        · omega
        · have := (ho t (by omega)).2.2.1; omega
      have hf256 : f < 256 := by
        rcases hf with ⟨rfl, -, -⟩ | ⟨rfl, -, -⟩
        · decide
        · exact bsN_256 (by omega) _
      have hf0 : f = 0 → ∀ t, t < i → s.testBit t = false := by
        intro q
        rcases hf with ⟨-, -, hf⟩ | ⟨hf1, ⟨t, ht, hb, e⟩, -⟩
        · exact hf
        · exfalso
          rw [q] at hf1
          have := (bsN_zero i).mp hf1.symm t ht
          simp [hb, e] at this
      refine rX12_bySize_8 fun _ => ⟨by omega, fun h => by omega, fun _ => ?_⟩
      rw [bit_is (by omega) (by omega), e]
      have newb : s.testBit i = true → (∀ t, t < i → s.testBit t = true → S.2 2 i < S.2 2 t) → GX12_bySize_62 X s 0 f b i σ Q := by
        intro hb hlt
        refine rX12_bySize_62 fun _ => rX12_bySize_67 fun _ => ⟨by decide, fun h => absurd h (by decide), fun _ => rX12_bySize_103 fun _ => ⟨by decide, fun h => absurd h (by decide), fun _ => ⟨by omega, rX12_bySize_121 fun _ => rX12_bySize_123 fun _ => ?_⟩⟩⟩
        rw [e, zshl_one (by omega)]
        refine ih (i + 1) (by omega) _ _ (Or.inr ⟨?_, ⟨i, by omega, hb, rfl⟩, fun t ht htb => ?_⟩)
        · have h0 : bsN i (fun t => s.testBit t && decide (S.2 2 t = S.2 2 i)) = 0 := (bsN_zero i).mpr fun t ht => by
            by_cases q : s.testBit t = true
            · have := hlt t ht q; simp [q]; omega
            · simp [q]
          show _ = bsN i _ + _
          rw [h0, if_pos (by simp [hb]), Nat.zero_add]
        · rcases Nat.lt_succ_iff_lt_or_eq.mp ht with q | rfl
          · have := hlt t q htb; omega
          · omega
      have keep : s.testBit i = true → f ≠ 0 → (∀ t, t < i → s.testBit t = true → b ≤ S.2 2 t) → (b ≤ S.2 2 i) → GX12_bySize_66 X s 0 f b i σ Q := by
        intro hb hn0 hall hbi
        obtain ⟨hf1, hex, -⟩ : f = bsN i (fun t => s.testBit t && decide (S.2 2 t = b)) ∧ (∃ t, t < i ∧ s.testBit t = true ∧ S.2 2 t = b) ∧ True := by
          rcases hf with ⟨rfl, -, -⟩ | ⟨a, c, -⟩
          · exact absurd rfl hn0
          · exact ⟨a, c, trivial⟩
        obtain ⟨t0, ht0, hb0, e0⟩ := hex
        refine rX12_bySize_66 fun _ => rX12_bySize_67 fun _ => ⟨by decide, fun _ => ⟨by omega, by omega, fun q => ?_, fun q => ?_⟩, fun h => absurd rfl h⟩
        · rw [e] at q
          refine rX12_bySize_103 fun _ => ⟨by decide, fun _ => rX12_bySize_121 fun _ => rX12_bySize_123 fun _ => ih (i + 1) (by omega) _ _ (Or.inr ⟨?_, ⟨t0, by omega, hb0, e0⟩, fun t ht htb => ?_⟩), fun h => absurd rfl h⟩
          · rw [bs_out (by simp [q])]; exact hf1
          · rcases Nat.lt_succ_iff_lt_or_eq.mp ht with q | rfl
            · exact hall t q htb
            · omega
        · rw [e] at q
          refine rX12_bySize_103 fun _ => ⟨by decide, fun _ => rX12_bySize_121 fun _ => rX12_bySize_123 fun _ => ?_, fun h => absurd rfl h⟩
          rw [hf1, bs_in (p := fun t => s.testBit t && decide (S.2 2 t = b)) (by omega) (by simp [q, hb])]
          refine ih (i + 1) (by omega) _ _ (Or.inr ⟨rfl, ⟨t0, by omega, hb0, e0⟩, fun t ht htb => ?_⟩)
          rcases Nat.lt_succ_iff_lt_or_eq.mp ht with q | rfl
          · exact hall t q htb
          · omega
      refine ⟨fun hb => rX12_bySize_123 fun _ => ih (i + 1) (by omega) f b ?_, fun hb => ⟨by omega, fun q => newb hb (fun t ht htb => ?_), fun q => ?_⟩⟩
      · have hbf : s.testBit i = false := by simpa using hb
        rcases hf with ⟨h1, h2, h3⟩ | ⟨h1, ⟨t, ht, h2, h3⟩, h4⟩
        · refine Or.inl ⟨h1, h2, fun t ht => ?_⟩
          rcases Nat.lt_succ_iff_lt_or_eq.mp ht with q | rfl
          · exact h3 t q
          · exact hbf
        · refine Or.inr ⟨by rw [bs_out (by simp [hbf])]; exact h1, ⟨t, by omega, h2, h3⟩, fun u hu hbu => ?_⟩
          rcases Nat.lt_succ_iff_lt_or_eq.mp hu with q | rfl
          · exact h4 u q hbu
          · exact absurd hbu hb
      · exact absurd htb (by rw [hf0 (by omega) t ht]; decide)
      · have hall : ∀ t, t < i → s.testBit t = true → b ≤ S.2 2 t := by
          rcases hf with ⟨rfl, -, -⟩ | ⟨-, -, h4⟩
          · exact absurd rfl q
          · exact h4
        have hn0 : f ≠ 0 := by omega
        exact ⟨by decide, fun _ => ⟨by omega, by omega, fun z => keep hb hn0 hall z, fun z => newb hb (fun t ht htb => by have := hall t ht htb; omega)⟩, fun h => absurd rfl h⟩
  exact loop S.1 0 (by omega) 0 0 (Or.inl ⟨rfl, rfl, fun t ht => by omega⟩)
