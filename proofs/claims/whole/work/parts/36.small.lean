/-! tie, and what is small -/
theorem c_tie {CK : CKt} {X : Cx} {A : AS} {m : Nat} {σ : Sg} {a b : Int} (h : InvC CK A m σ) (hA : okA A) (hm : m < 1000) (ha : inI a) (hb : inI b) : doesC CK m (opTie A a b) σ (KX11_tie X a b σ) := by
  intro Q K
  have hat := h.1
  have hS := hA.1
  obtain ⟨h8, hoR, hB, hap, hti⟩ := hA.1
  have hK := hA.2.2.1.1
  unfold opTie at K
  refine eX11_tie (rX11_tie_0 fun _ => s_has hat.1 h8 ha fun _ => ?_)
  by_cases q : 0 ≤ a ∧ a < (A.1.1 : Int)
  · rw [if_pos q]
    refine ⟨by decide, fun z => absurd z (by decide), fun _ => s_has hat.1 h8 hb fun _ => ?_⟩
    by_cases q' : 0 ≤ b ∧ b < (A.1.1 : Int)
    · rw [if_pos q']
      refine ⟨by decide, fun z => absurd z (by decide), fun _ => ⟨ha, hb, fun ne => ?_, fun e => ?_⟩⟩
      · rw [if_pos ⟨q, q', ne⟩] at K
        obtain ⟨i, rfl⟩ : ∃ i : Nat, a = i := ⟨a.toNat, by omega⟩
        obtain ⟨j, rfl⟩ : ∃ j : Nat, b = j := ⟨b.toNat, by omega⟩
        rw [show ((i : Int).toNat) = i from rfl, show ((j : Int).toNat) = j from rfl] at *
        have hi : i < A.1.1 := by omega
        have hj : j < A.1.1 := by omega
        have e6 : σ 9 i = ((A.1.2 6 i).toNat : Int) := by rw [show σ 9 i = σ (3 + 6) i from rfl, hat.2.2 6 i (by decide) hi]; have := hoR i hi; omega
        have e7 : σ 10 j = ((A.1.2 7 j).toNat : Int) := by rw [show σ 10 j = σ (3 + 7) j from rfl, hat.2.2 7 j (by decide) hj]; have := hoR j hj; omega
        have l6 := (hoR i hi).2.2.2.2.2.2.1
        have l7 := (hoR j hj).2.2.2.2.2.2.2
        have h11 := h.2.2.2.2.2.2.2.1
        refine eX5_isTied (rX5_isTied_0 fun _ => s_has hat.1 h8 ha fun _ => ?_)
        rw [if_pos q]
        refine ⟨by decide, fun z => absurd z (by decide), fun _ => s_has hat.1 h8 hb fun _ => ?_⟩
        rw [if_pos q']
        refine ⟨by decide, fun z => absurd z (by decide), fun _ => ⟨by omega, ?_⟩⟩
        rw [show ((i : Int).toNat) = i from rfl, e6, bit_is (by omega) (by omega)]
        refine ⟨fun z _ => ?_, fun z _ => ?_⟩
        · rw [if_neg z] at K
          have z' : (A.1.2 6 i).toNat.testBit j = false := by simpa using z
          refine ⟨by decide, fun _ => ⟨by omega, eX5_addTie (rX5_addTie_0 fun _ => ?_)⟩, fun y => absurd rfl y⟩
          have hat' : atC A.1 (up2 σ 0 11 (σ 0 11 + 1)) := hat.frame' fun c k z => up2_nc _ _ (by omega)
          refine s_has hat'.1 h8 ha fun _ => ?_
          rw [if_pos q]
          refine ⟨by decide, fun z => absurd z (by decide), fun _ => s_has hat'.1 h8 hb fun _ => ?_⟩
          rw [if_pos q']
          refine ⟨by decide, fun z => absurd z (by decide), fun _ => ?_⟩
          rw [show ((i : Int).toNat) = i from rfl, show ((j : Int).toNat) = j from rfl, up2_nc _ _ (show (9 : Nat) ≠ 0 by decide), up2_nc _ _ (show (10 : Nat) ≠ 0 by decide), up2_nc _ _ (show (1 : Nat) ≠ 0 by decide), e6, e7, h.2.2.1, zshl_one (by omega), zshl_one (by omega), zor_nat (by omega) (by have := pow_lt8 (n := j) (by omega); omega), zor_nat (by omega) (by have := pow_lt8 (n := i) (by omega); omega)]
          have ht := tieS_tsum hS hi hj z'
          have ts8 : inI ((tsum A.1 : Int) + 1) := by
            have : ∀ n, tsF (A.1.2 6) n ≤ 8 * n := by
              intro n
              induction n with
              | zero => exact Nat.le_refl _
              | succ n ih => show tsF (A.1.2 6) n + pc8 _ ≤ _; have := pc8_le (A.1.2 6 n).toNat; omega
            have := this A.1.1
            have e : tsum A.1 = tsF (A.1.2 6) A.1.1 := rfl
            omega
          refine ⟨by omega, by omega, by omega, by omega, ts8, fun _ => ?_⟩
          refine K _ (fun c k z => by rw [up2_nc _ _ (by omega), up2_nc _ _ (by omega), up2_nc _ _ (by omega), up2_nc _ _ (by omega)]) (h.scene hK (fun c k z => by rw [up2_nc _ _ (by omega), up2_nc _ _ (by omega), up2_nc _ _ (by omega), up2_a _ _ (by omega)]) ⟨by rw [up2_a _ _ (by omega), up2_nc _ _ (by omega), up2_nc _ _ (by omega), up2_nc _ _ (by omega)]; exact hat.1, h8, fun r t hr ht => ?_⟩ (fun t ht1 ht2 => ?_) ?_ ?_)
          · rw [up2_a _ _ (by omega)]
            by_cases q6 : r = 6 ∧ t = i
            · rw [q6.1, q6.2, tieS_6, up2_a _ _ (by omega), show 3 + 6 = 9 from rfl, up2_s]
            · by_cases q7 : r = 7 ∧ t = j
              · rw [q7.1, q7.2, tieS_7, show 3 + 7 = 10 from rfl, up2_s]
              · rw [tieS_row q6 q7, up2_a _ _ (by omega), up2_a _ _ (by omega), up2_a _ _ (by omega)]
                exact hat.2.2 r t hr ht
          · have ht1' : A.1.1 ≤ t := ht1
            rw [up2_a _ _ (by omega), up2_a _ _ (by omega), up2_a _ _ (by omega), up2_a _ _ (by omega), up2_a _ _ (by omega), up2_a _ _ (by omega), up2_a _ _ (by omega), up2_a _ _ (by omega), up2_a _ _ (by omega), up2_a _ _ (by omega), up2_a _ _ (by omega), up2_a _ _ (by omega)]
            exact h.2.1 t ht1 ht2
          · rw [up2_s, ht]; rfl
          · rw [up2_a _ _ (by omega), up2_a _ _ (by omega), up2_a _ _ (by omega), up2_s]
        · rw [if_pos z] at K
          exact ⟨by decide, fun y => absurd y (by decide), fun _ => K σ (fun _ _ _ => rfl) h.more⟩
      · rw [if_neg (fun z => z.2.2 e)] at K
        exact K σ (fun _ _ _ => rfl) h.more
    · rw [if_neg q']
      rw [if_neg (fun z => q' z.2.1)] at K
      exact ⟨by decide, fun _ => K σ (fun _ _ _ => rfl) h.more, fun z => absurd rfl z⟩
  · rw [if_neg q]
    rw [if_neg (fun z => q z.1)] at K
    exact ⟨by decide, fun _ => K σ (fun _ _ _ => rfl) h.more, fun z => absurd rfl z⟩
theorem m_tieMany {X : Cx} {σ : Sg} {Q : Int → Sg → Prop} {S : Sc} (h : atM S σ) (ho : okR S) (k : Q (tsum S : Nat) σ) : KX12_tieMany X σ Q := by
  refine eX12_tieMany (rX12_tieMany_0 fun _ => ?_)
  have loop : ∀ d i : Nat, i + d = S.1 → GX12_tieMany_4 X ((tsF (S.2 6) i : Nat) : Int) i σ Q := by
    intro d
    induction d with
    | zero =>
      intro i hi
      have : i = S.1 := by omega
      subst this
      exact rX12_tieMany_4 fun _ => ⟨by have := h.2.1; omega, fun _ => k, fun z => by have := h.1; omega⟩
    | succ d ih =>
      intro i hi
      have h8 := h.2.1
      have hn := h.1
      have e : σ 75 ((i : Int).toNat) = ((S.2 6 i).toNat : Int) := by rw [show σ 75 ((i : Int).toNat) = S.2 6 i from (h.2.2 i (by omega)).2.2.2.2.2]; have := ho i (by omega); omega
      refine rX12_tieMany_4 fun _ => ⟨by omega, fun z => by omega, fun _ => ⟨by omega, ?_⟩⟩
      rw [e]
      exact m_bits (by have := ho i (by omega); omega) fun _ => ih (i + 1) (by omega)
  exact loop S.1 0 (by omega)
theorem m_tie {X : Cx} {A : AS} {σ : Sg} {a b : Int} (h : InvM A σ) (hA : okA A) (ha : inI a) (hb : inI b) : doesM (opTie A a b) σ (KX12_tie X a b σ) := by
  intro Q K
  have hat := h.1
  have hS := hA.1
  obtain ⟨h8, hoR, hB, hap, hti⟩ := hA.1
  unfold opTie at K
  refine eX12_tie (rX12_tie_0 fun _ => m_isThing hat.1 h8 ha fun _ => ?_)
  by_cases q : 0 ≤ a ∧ a < (A.1.1 : Int)
  · rw [if_pos q]
    refine ⟨by decide, fun z => absurd z (by decide), fun _ => m_isThing hat.1 h8 hb fun _ => ?_⟩
    by_cases q' : 0 ≤ b ∧ b < (A.1.1 : Int)
    · rw [if_pos q']
      refine ⟨by decide, fun z => absurd z (by decide), fun _ => ⟨ha, hb, fun ne => ⟨by omega, ?_⟩, fun e => ?_⟩⟩
      · rw [if_pos ⟨q, q', ne⟩] at K
        obtain ⟨i, rfl⟩ : ∃ i : Nat, a = i := ⟨a.toNat, by omega⟩
        obtain ⟨j, rfl⟩ : ∃ j : Nat, b = j := ⟨b.toNat, by omega⟩
        rw [show ((i : Int).toNat) = i from rfl, show ((j : Int).toNat) = j from rfl] at *
        have hi : i < A.1.1 := by omega
        have hj : j < A.1.1 := by omega
        have e6 : σ 75 i = ((A.1.2 6 i).toNat : Int) := by rw [(hat.2.2 i hi).2.2.2.2.2]; have := hoR i hi; omega
        have l6 := (hoR i hi).2.2.2.2.2.2.1
        rw [e6, bit_is (by omega) (by omega)]
        refine ⟨fun z => ?_, fun z => ?_⟩
        · rw [if_neg z] at K
          have z' : (A.1.2 6 i).toNat.testBit j = false := by simpa using z
          rw [zshl_one (by omega), zor_nat (by omega) (by have := pow_lt8 (n := j) (by omega); omega)]
          have hat' : atM (tieS A.1 i j) (up2 σ 75 i (((A.1.2 6 i).toNat ||| 2 ^ j : Nat) : Int)) := by
            refine ⟨by rw [up2_nc _ _ (by decide)]; exact hat.1, h8, fun t ht => ?_⟩
            have r := hat.2.2 t ht
            rw [up2_nc _ _ (show (70 : Nat) ≠ 75 by decide), up2_nc _ _ (show (71 : Nat) ≠ 75 by decide), up2_nc _ _ (show (72 : Nat) ≠ 75 by decide), up2_nc _ _ (show (73 : Nat) ≠ 75 by decide), up2_nc _ _ (show (74 : Nat) ≠ 75 by decide), tieS_row (r := 0) (by omega) (by omega), tieS_row (r := 1) (by omega) (by omega), tieS_row (r := 2) (by omega) (by omega), tieS_row (r := 3) (by omega) (by omega), tieS_row (r := 4) (by omega) (by omega)]
            refine ⟨r.1, r.2.1, r.2.2.1, r.2.2.2.1, r.2.2.2.2.1, ?_⟩
            by_cases qt : t = i
            · rw [qt, tieS_6, up2_s]
            · rw [up2_nk _ _ qt, tieS_row (by omega) (by omega)]; exact r.2.2.2.2.2
          refine ⟨by omega, by omega, m_tieMany hat' (tieS_ok hS hi hj).2.1 fun _ => ?_⟩
          rw [tieS_tsum hS hi hj z']
          refine K _ (fun c k z => up2_nc _ _ (by omega)) (h.scene (fun c k z1 z2 z3 => up2_nc _ _ (by omega)) hat' fun t ht1 ht2 => ?_)
          have ht1' : A.1.1 ≤ t := ht1
          rw [up2_a _ _ (by omega), up2_a _ _ (by omega)]
          exact h.2.1 t ht1 ht2
        · rw [if_pos z] at K
          exact K σ (fun _ _ _ => rfl) h
      · rw [if_neg (fun z => z.2.2 e)] at K
        exact K σ (fun _ _ _ => rfl) h
    · rw [if_neg q']
      rw [if_neg (fun z => q' z.2.1)] at K
      exact ⟨by decide, fun _ => K σ (fun _ _ _ => rfl) h, fun z => absurd rfl z⟩
  · rw [if_neg q]
    rw [if_neg (fun z => q z.1)] at K
    exact ⟨by decide, fun _ => K σ (fun _ _ _ => rfl) h, fun z => absurd rfl z⟩
