/-! printed by program: X1_start X1_add X1_isBetter X1_saidOf X1_deepen X4_meaning X2_hearAs X2_hear X3_property X3_cost X4_add X4_addNumber X4_copy X4_cost X6_add X6_pointingAt X6_cost X7_hasRoomFor X7_append X7_clear X7_sortAt X7_endOfToken X7_readNumber X7_readWord X7_read X8_looksLike X8_hasAsMany X8_part X8_find X8_sorts -/
def GX1_start_0 (X : Cx) (σ : Sg) (Q : Int → Sg → Prop) : Prop := VV X mX1_start 0 [(0, .ref (cxA X 61))] [] σ Q
set_option maxHeartbeats 2000000 in
set_option maxRecDepth 20000 in
theorem rX1_start_0 {X : Cx} {σ : Sg} {Q : Int → Sg → Prop} (h : Rng σ → Q 0 (up2 σ 61 3 0)) : GX1_start_0 X σ Q := by
  unfold GX1_start_0
  refine V_rng (fun hR0 => ?_)
  have h := h hR0
  refine V_aload_n 0 rfl rfl dX1_start_0 ?_
  refine V_iconst dX1_start_1 ?_
  refine V_putI (f := 3) ci_X1 sh_61 rfl (by decide) rfl rfl (by decide) dX1_start_2 lk_RX1_f21 ?_
  exact V_vret rfl dX1_start_5 h
theorem eX1_start {X : Cx} {σ : Sg} {Q : Int → Sg → Prop} (h : GX1_start_0 X σ Q) : KX1_start X σ Q := V_enter (by decide) (Nat.le_of_ble_eq_true rfl) rfl h
def GX1_add_0 (X : Cx) (v1 : Int) (v2 : Int) (σ : Sg) (Q : Int → Sg → Prop) : Prop := VV X mX1_add 0 [(0, .ref (cxA X 61)), (1, .int (gI v1)), (2, .int (gI v2))] [] σ Q
set_option maxHeartbeats 2000000 in
set_option maxRecDepth 20000 in
theorem rX1_add_0 {X : Cx} {v1 : Int} {v2 : Int} {σ : Sg} {Q : Int → Sg → Prop} (h : Rng σ → ((8 ≤ (σ 61 3) → Q 0 σ) ∧ ((σ 61 3) < 8 → (0 ≤ σ 61 3 ∧ σ 61 3 < 8) ∧ (inI v1) ∧ (0 ≤ σ 61 3 ∧ σ 61 3 < 8) ∧ (inI v2) ∧ (inI ((σ 61 3) + 1)) ∧ Q 0 (up2 (up2 (up2 σ 62 ((σ 61 3).toNat) v1) 64 ((σ 61 3).toNat) v2) 61 3 ((σ 61 3) + 1))))) : GX1_add_0 X v1 v2 σ Q := by
  unfold GX1_add_0
  refine V_rng (fun hR0 => ?_)
  have h := h hR0
  refine V_aload_n 0 rfl rfl dX1_add_0 ?_
  refine V_getI (f := 3) ci_X1 sh_61 rfl (by decide) dX1_add_1 lk_RX1_f21 ?_
  refine V_bipush (v := 8) (by decide) dX1_add_4 ?_
  refine V_icmp_ge (tgt := 39) dX1_add_6 (by decide) (show inI (σ 61 3) from (inI_sh hR0 sh_61 (by decide))) (by decide) (fun q1 => ?_) (fun q1 => ?_)
  · have h := h.1 q1
    exact V_vret rfl dX1_add_39 h
  · have h := h.2 q1
    refine V_aload_n 0 rfl rfl dX1_add_9 ?_
    refine V_getR (f := 0) ci_X1 sh_61 rfl (by decide) (c1 := 62) rfl dX1_add_10 lk_RX1_f9 ?_
    refine V_aload_n 0 rfl rfl dX1_add_13 ?_
    refine V_getI (f := 3) ci_X1 sh_61 rfl (by decide) dX1_add_14 lk_RX1_f21 ?_
    refine V_iload_n 1 rfl rfl dX1_add_17 ?_
    obtain ⟨g2, h⟩ := h
    obtain ⟨g3, h⟩ := h
    refine V_iast sh_62 (by decide) g2 g3 dX1_add_18 ?_
    refine V_aload_n 0 rfl rfl dX1_add_19 ?_
    refine V_getR (f := 2) ci_X1 sh_61 rfl (by decide) (c1 := 64) rfl dX1_add_20 lk_RX1_f18 ?_
    refine V_aload_n 0 rfl rfl dX1_add_23 ?_
    refine V_getI (f := 3) ci_X1 sh_61 rfl (by decide) dX1_add_24 lk_RX1_f21 ?_
    refine V_iload_n 2 rfl rfl dX1_add_27 ?_
    obtain ⟨g4, h⟩ := h
    obtain ⟨g5, h⟩ := h
    refine V_iast sh_64 (by decide) g4 g5 dX1_add_28 ?_
    refine V_aload_n 0 rfl rfl dX1_add_29 ?_
    refine V_dup rfl dX1_add_30 ?_
    refine V_getI (f := 3) ci_X1 sh_61 rfl (by decide) dX1_add_31 lk_RX1_f21 ?_
    refine V_iconst dX1_add_34 ?_
    refine V_iadd dX1_add_35 ?_
    obtain ⟨g6, h⟩ := h
    refine V_putI (f := 3) ci_X1 sh_61 rfl (by decide) rfl rfl g6 dX1_add_36 lk_RX1_f21 ?_
    exact V_vret rfl dX1_add_39 h
theorem eX1_add {X : Cx} {v1 : Int} {v2 : Int} {σ : Sg} {Q : Int → Sg → Prop} (h : GX1_add_0 X v1 v2 σ Q) : KX1_add X v1 v2 σ Q := V_enter (by decide) (Nat.le_of_ble_eq_true rfl) rfl h
def GX1_isBetter_0 (X : Cx) (v1 : Int) (v2 : Int) (σ : Sg) (Q : Int → Sg → Prop) : Prop := VV X mX1_isBetter 0 [(0, .ref (cxA X 61)), (1, .int (gI v1)), (2, .int (gI v2))] [] σ Q
set_option maxHeartbeats 2000000 in
set_option maxRecDepth 20000 in
theorem rX1_isBetter_0 {X : Cx} {v1 : Int} {v2 : Int} {σ : Sg} {Q : Int → Sg → Prop} (h : Rng σ → (0 ≤ v1 ∧ v1 < 8) ∧ KJ6_bitCount_0f7a4 X (σ 62 v1.toNat) σ (fun r2 σ3 => Rng σ3 → (0 ≤ v2 ∧ v2 < 8) ∧ KJ6_bitCount_0f7a4 X (σ3 62 v2.toNat) σ3 (fun r6 σ7 => Rng σ7 → (inI (r2 - r6)) ∧ (((r2 - r6) < 0 → Q 1 σ7) ∧ (0 ≤ (r2 - r6) → (inI (r2 - r6)) ∧ ((¬ (r2 - r6) = 0 → Q 0 σ7) ∧ ((r2 - r6) = 0 → (0 ≤ v1 ∧ v1 < 8) ∧ (0 ≤ v2 ∧ v2 < 8) ∧ (((σ7 64 v2.toNat) ≤ (σ7 64 v1.toNat) → Q 0 σ7) ∧ ((σ7 64 v1.toNat) < (σ7 64 v2.toNat) → Q 1 σ7))))))))) : GX1_isBetter_0 X v1 v2 σ Q := by
  unfold GX1_isBetter_0
  refine V_rng (fun hR0 => ?_)
  have h := h hR0
  refine V_aload_n 0 rfl rfl dX1_isBetter_0 ?_
  refine V_getR (f := 0) ci_X1 sh_61 rfl (by decide) (c1 := 62) rfl dX1_isBetter_1 lk_RX1_f9 ?_
  refine V_iload_n 1 rfl rfl dX1_isBetter_4 ?_
  obtain ⟨g1, h⟩ := h
  refine V_iald sh_62 (by decide) g1 dX1_isBetter_5 ?_
  refine V_cS (M' := mJ6_bitCount_0f7a4) (As := [.int (gI (σ 62 v1.toNat))]) (fun r => [.int (gI r)]) ok_J6_bitCount_0f7a4 ok2_J6_bitCount_0f7a4 rfl rfl (Nat.le_of_ble_eq_true rfl) dX1_isBetter_6 lk_RX1_m29 (by decide) (fun _ => rfl) h (fun r2 σ3 h => ?_)
  refine V_rng (fun hR4 => ?_)
  have h := h hR4
  refine V_aload_n 0 rfl rfl dX1_isBetter_9 ?_
  refine V_getR (f := 0) ci_X1 sh_61 rfl (by decide) (c1 := 62) rfl dX1_isBetter_10 lk_RX1_f9 ?_
  refine V_iload_n 2 rfl rfl dX1_isBetter_13 ?_
  obtain ⟨g5, h⟩ := h
  refine V_iald sh_62 (by decide) g5 dX1_isBetter_14 ?_
  refine V_cS (M' := mJ6_bitCount_0f7a4) (As := [.int (gI (σ3 62 v2.toNat))]) (fun r => [.int (gI r), .int (gI r2)]) ok_J6_bitCount_0f7a4 ok2_J6_bitCount_0f7a4 rfl rfl (Nat.le_of_ble_eq_true rfl) dX1_isBetter_15 lk_RX1_m29 (by decide) (fun _ => rfl) h (fun r6 σ7 h => ?_)
  refine V_rng (fun hR8 => ?_)
  have h := h hR8
  refine V_isub dX1_isBetter_18 ?_
  refine V_istore_n (L' := [(3, .int (gI (r2 - r6))), (0, .ref (cxA X 61)), (1, .int (gI v1)), (2, .int (gI v2))]) rfl (by decide) rfl dX1_isBetter_19 ?_
  refine V_iload_n 0 rfl rfl dX1_isBetter_20 ?_
  obtain ⟨g9, h⟩ := h
  refine V_if_lt (tgt := 43) dX1_isBetter_21 (by decide) g9 (fun q10 => ?_) (fun q10 => ?_)
  · have h := h.1 q10
    refine V_iconst dX1_isBetter_43 ?_
    refine V_goto (tgt := 48) dX1_isBetter_44 (by decide) ?_
    exact V_iret rfl (fun _ q => by cases q) (by decide) dX1_isBetter_48 h
  · have h := h.2 q10
    refine V_iload_n 0 rfl rfl dX1_isBetter_24 ?_
    obtain ⟨g11, h⟩ := h
    refine V_if_ne (tgt := 47) dX1_isBetter_25 (by decide) g11 (fun q12 => ?_) (fun q12 => ?_)
    · have h := h.1 q12
      refine V_iconst dX1_isBetter_47 ?_
      exact V_iret rfl (fun _ q => by cases q) (by decide) dX1_isBetter_48 h
    · have h := h.2 q12
      refine V_aload_n 1 rfl rfl dX1_isBetter_28 ?_
      refine V_getR (f := 2) ci_X1 sh_61 rfl (by decide) (c1 := 64) rfl dX1_isBetter_29 lk_RX1_f18 ?_
      refine V_iload_n 2 rfl rfl dX1_isBetter_32 ?_
      obtain ⟨g13, h⟩ := h
      refine V_iald sh_64 (by decide) g13 dX1_isBetter_33 ?_
      refine V_aload_n 1 rfl rfl dX1_isBetter_34 ?_
      refine V_getR (f := 2) ci_X1 sh_61 rfl (by decide) (c1 := 64) rfl dX1_isBetter_35 lk_RX1_f18 ?_
      refine V_iload_n 3 rfl rfl dX1_isBetter_38 ?_
      obtain ⟨g14, h⟩ := h
      refine V_iald sh_64 (by decide) g14 dX1_isBetter_39 ?_
      refine V_icmp_ge (tgt := 47) dX1_isBetter_40 (by decide) (show inI (σ7 64 v1.toNat) from (inI_sh hR8 sh_64 (by decide))) (show inI (σ7 64 v2.toNat) from (inI_sh hR8 sh_64 (by decide))) (fun q15 => ?_) (fun q15 => ?_)
      · have h := h.1 q15
        refine V_iconst dX1_isBetter_47 ?_
        exact V_iret rfl (fun _ q => by cases q) (by decide) dX1_isBetter_48 h
      · have h := h.2 q15
        refine V_iconst dX1_isBetter_43 ?_
        refine V_goto (tgt := 48) dX1_isBetter_44 (by decide) ?_
        exact V_iret rfl (fun _ q => by cases q) (by decide) dX1_isBetter_48 h
theorem eX1_isBetter {X : Cx} {v1 : Int} {v2 : Int} {σ : Sg} {Q : Int → Sg → Prop} (h : GX1_isBetter_0 X v1 v2 σ Q) : KX1_isBetter X v1 v2 σ Q := V_enter (by decide) (Nat.le_of_ble_eq_true rfl) rfl h
def GX1_saidOf_0 (X : Cx) (v1 : Int) (σ : Sg) (Q : Int → Sg → Prop) : Prop := VV X mX1_saidOf 0 [(0, .ref (cxA X 61)), (1, .int (gI v1))] [] σ Q
def GX1_saidOf_4 (X : Cx) (v1 : Int) (v2 : Int) (v3 : Int) (σ : Sg) (Q : Int → Sg → Prop) : Prop := VV X mX1_saidOf 4 [(0, .ref (cxA X 61)), (1, .int (gI v1)), (2, .int (gI v2)), (3, .int (gI v3))] [] σ Q
def GX1_saidOf_46 (X : Cx) (v1 : Int) (v2 : Int) (v3 : Int) (σ : Sg) (Q : Int → Sg → Prop) : Prop := VV X mX1_saidOf 46 [(0, .ref (cxA X 61)), (1, .int (gI v1)), (2, .int (gI v2)), (3, .int (gI v3))] [] σ Q
def GX1_saidOf_48 (X : Cx) (v1 : Int) (v2 : Int) (v3 : Int) (σ : Sg) (Q : Int → Sg → Prop) : Prop := VV X mX1_saidOf 48 [(0, .ref (cxA X 61)), (1, .int (gI v1)), (2, .int (gI v2)), (3, .int (gI v3))] [] σ Q
set_option maxHeartbeats 2000000 in
set_option maxRecDepth 20000 in
theorem rX1_saidOf_0 {X : Cx} {v1 : Int} {σ : Sg} {Q : Int → Sg → Prop} (h : Rng σ → GX1_saidOf_4 X v1 ((-1)) 0 σ Q) : GX1_saidOf_0 X v1 σ Q := by
  unfold GX1_saidOf_0
  refine V_rng (fun hR0 => ?_)
  have h := h hR0
  refine V_iconst dX1_saidOf_0 ?_
  refine V_istore_n (L' := [(2, .int (gI ((-1)))), (0, .ref (cxA X 61)), (1, .int (gI v1))]) rfl (by decide) rfl dX1_saidOf_1 ?_
  refine V_iconst dX1_saidOf_2 ?_
  refine V_istore_n (L' := [(3, .int (gI 0)), (2, .int (gI ((-1)))), (0, .ref (cxA X 61)), (1, .int (gI v1))]) rfl (by decide) rfl dX1_saidOf_3 ?_
  exact V_sub [2, 3, 1, 0] rfl h
set_option maxHeartbeats 2000000 in
set_option maxRecDepth 20000 in
theorem rX1_saidOf_4 {X : Cx} {v1 : Int} {v2 : Int} {v3 : Int} {σ : Sg} {Q : Int → Sg → Prop} (h : Rng σ → (inI v3) ∧ (((σ 61 3) ≤ v3 → Q v2 σ) ∧ (v3 < (σ 61 3) → (inI v3) ∧ ((8 ≤ v3 → Q v2 σ) ∧ (v3 < 8 → (0 ≤ v3 ∧ v3 < 8) ∧ ((¬ (zand (zshr (σ 62 v3.toNat) v1) 1) = 1 → GX1_saidOf_48 X v1 v2 v3 σ Q) ∧ ((zand (zshr (σ 62 v3.toNat) v1) 1) = 1 → (inI v2) ∧ ((v2 = ((-1)) → GX1_saidOf_46 X v1 v2 v3 σ Q) ∧ (¬ v2 = ((-1)) → KX1_isBetter X v3 v2 σ (fun r9 σ10 => Rng σ10 → (inI r9) ∧ ((r9 = 0 → GX1_saidOf_48 X v1 v2 v3 σ10 Q) ∧ (¬ r9 = 0 → GX1_saidOf_46 X v1 v2 v3 σ10 Q)))))))))))) : GX1_saidOf_4 X v1 v2 v3 σ Q := by
  unfold GX1_saidOf_4
  refine V_rng (fun hR0 => ?_)
  have h := h hR0
  refine V_iload_n 3 rfl rfl dX1_saidOf_4 ?_
  refine V_aload_n 0 rfl rfl dX1_saidOf_5 ?_
  refine V_getI (f := 3) ci_X1 sh_61 rfl (by decide) dX1_saidOf_6 lk_RX1_f21 ?_
  obtain ⟨g1, h⟩ := h
  refine V_icmp_ge (tgt := 54) dX1_saidOf_9 (by decide) g1 (show inI (σ 61 3) from (inI_sh hR0 sh_61 (by decide))) (fun q2 => ?_) (fun q2 => ?_)
  · have h := h.1 q2
    refine V_iload_n 2 rfl rfl dX1_saidOf_54 ?_
    exact V_iret rfl (fun _ q => by cases q) (vp_nar_int _) dX1_saidOf_55 h
  · have h := h.2 q2
    refine V_iload_n 3 rfl rfl dX1_saidOf_12 ?_
    refine V_bipush (v := 8) (by decide) dX1_saidOf_13 ?_
    obtain ⟨g3, h⟩ := h
    refine V_icmp_ge (tgt := 54) dX1_saidOf_15 (by decide) g3 (by decide) (fun q4 => ?_) (fun q4 => ?_)
    · have h := h.1 q4
      refine V_iload_n 2 rfl rfl dX1_saidOf_54 ?_
      exact V_iret rfl (fun _ q => by cases q) (vp_nar_int _) dX1_saidOf_55 h
    · have h := h.2 q4
      refine V_aload_n 0 rfl rfl dX1_saidOf_18 ?_
      refine V_getR (f := 0) ci_X1 sh_61 rfl (by decide) (c1 := 62) rfl dX1_saidOf_19 lk_RX1_f9 ?_
      refine V_iload_n 3 rfl rfl dX1_saidOf_22 ?_
      obtain ⟨g5, h⟩ := h
      refine V_iald sh_62 (by decide) g5 dX1_saidOf_23 ?_
      refine V_iload_n 1 rfl rfl dX1_saidOf_24 ?_
      refine V_ishr dX1_saidOf_25 ?_
      refine V_iconst dX1_saidOf_26 ?_
      refine V_iand dX1_saidOf_27 ?_
      refine V_iconst dX1_saidOf_28 ?_
      refine V_icmp_ne (tgt := 48) dX1_saidOf_29 (by decide) (inI_z _) (by decide) (fun q6 => ?_) (fun q6 => ?_)
      · have h := h.1 q6
        exact h
      · have h := h.2 q6
        refine V_iload_n 2 rfl rfl dX1_saidOf_32 ?_
        refine V_iconst dX1_saidOf_33 ?_
        obtain ⟨g7, h⟩ := h
        refine V_icmp_eq (tgt := 46) dX1_saidOf_34 (by decide) g7 (by decide) (fun q8 => ?_) (fun q8 => ?_)
        · have h := h.1 q8
          exact h
        · have h := h.2 q8
          refine V_aload_n 0 rfl rfl dX1_saidOf_37 ?_
          refine V_iload_n 3 rfl rfl dX1_saidOf_38 ?_
          refine V_iload_n 2 rfl rfl dX1_saidOf_39 ?_
          refine V_cV (M' := mX1_isBetter) (As := [.int (gI v3), .int (gI v2)]) (fun r => [.int (gI r)]) ok_X1_isBetter ok2_X1_isBetter sh_61 rfl (by decide) rfl rfl (Nat.le_of_ble_eq_true rfl) dX1_saidOf_40 lk_RX1_m25 (by decide) (fun _ => rfl) h (fun r9 σ10 h => ?_)
          refine V_rng (fun hR11 => ?_)
          have h := h hR11
          obtain ⟨g12, h⟩ := h
          refine V_if_eq (tgt := 48) dX1_saidOf_43 (by decide) g12 (fun q13 => ?_) (fun q13 => ?_)
          · have h := h.1 q13
            exact h
          · have h := h.2 q13
            exact h
set_option maxHeartbeats 2000000 in
set_option maxRecDepth 20000 in
theorem rX1_saidOf_46 {X : Cx} {v1 : Int} {v2 : Int} {v3 : Int} {σ : Sg} {Q : Int → Sg → Prop} (h : Rng σ → GX1_saidOf_48 X v1 v3 v3 σ Q) : GX1_saidOf_46 X v1 v2 v3 σ Q := by
  unfold GX1_saidOf_46
  refine V_rng (fun hR0 => ?_)
  have h := h hR0
  refine V_iload_n 3 rfl rfl dX1_saidOf_46 ?_
  refine V_istore_n (L' := [(2, .int (gI v3)), (0, .ref (cxA X 61)), (1, .int (gI v1)), (3, .int (gI v3))]) rfl (by decide) rfl dX1_saidOf_47 ?_
  exact V_sub [1, 2, 0, 3] rfl h
set_option maxHeartbeats 2000000 in
set_option maxRecDepth 20000 in
theorem rX1_saidOf_48 {X : Cx} {v1 : Int} {v2 : Int} {v3 : Int} {σ : Sg} {Q : Int → Sg → Prop} (h : Rng σ → GX1_saidOf_4 X v1 v2 (v3 + 1) σ Q) : GX1_saidOf_48 X v1 v2 v3 σ Q := by
  unfold GX1_saidOf_48
  refine V_rng (fun hR0 => ?_)
  have h := h hR0
  refine V_iinc (L' := [(3, .int (gI (v3 + 1))), (0, .ref (cxA X 61)), (1, .int (gI v1)), (2, .int (gI v2))]) 3 rfl (by decide) rfl dX1_saidOf_48 ?_
  refine V_goto (tgt := 4) dX1_saidOf_51 (by decide) ?_
  exact V_sub [1, 2, 3, 0] rfl h
theorem eX1_saidOf {X : Cx} {v1 : Int} {σ : Sg} {Q : Int → Sg → Prop} (h : GX1_saidOf_0 X v1 σ Q) : KX1_saidOf X v1 σ Q := V_enter (by decide) (Nat.le_of_ble_eq_true rfl) rfl h
def GX1_deepen_0 (X : Cx) (v1 : Int) (σ : Sg) (Q : Int → Sg → Prop) : Prop := VV X mX1_deepen 0 [(0, .ref (cxA X 61)), (1, .int (gI v1))] [] σ Q
def GX1_deepen_10 (X : Cx) (v1 : Int) (v2 : Int) (σ : Sg) (Q : Int → Sg → Prop) : Prop := VV X mX1_deepen 10 [(0, .ref (cxA X 61)), (1, .int (gI v1)), (2, .int (gI v2))] [] σ Q
def GX1_deepen_48 (X : Cx) (v1 : Int) (v2 : Int) (v3 : Int) (σ : Sg) (Q : Int → Sg → Prop) : Prop := VV X mX1_deepen 48 [(0, .ref (cxA X 61)), (1, .int (gI v1)), (2, .int (gI v2)), (3, .int (gI v3))] [] σ Q
def GX1_deepen_54 (X : Cx) (v1 : Int) (v2 : Int) (σ : Sg) (Q : Int → Sg → Prop) : Prop := VV X mX1_deepen 54 [(0, .ref (cxA X 61)), (1, .int (gI v1)), (2, .int (gI v2))] [] σ Q
def GX1_deepen_58 (X : Cx) (v1 : Int) (v2 : Int) (v3 : Int) (σ : Sg) (Q : Int → Sg → Prop) : Prop := VV X mX1_deepen 58 [(0, .ref (cxA X 61)), (1, .int (gI v1)), (2, .int (gI v2)), (3, .int (gI v3))] [] σ Q
def GX1_deepen_110 (X : Cx) (v1 : Int) (v2 : Int) (v3 : Int) (σ : Sg) (Q : Int → Sg → Prop) : Prop := VV X mX1_deepen 110 [(0, .ref (cxA X 61)), (1, .int (gI v1)), (2, .int (gI v2)), (3, .int (gI v3))] [] σ Q
set_option maxHeartbeats 2000000 in
set_option maxRecDepth 20000 in
theorem rX1_deepen_0 {X : Cx} {v1 : Int} {σ : Sg} {Q : Int → Sg → Prop} (h : Rng σ → KJ7_fill_53178 X 63 0 σ (fun r1 σ2 => Rng σ2 → GX1_deepen_10 X v1 0 σ2 Q)) : GX1_deepen_0 X v1 σ Q := by
  unfold GX1_deepen_0
  refine V_rng (fun hR0 => ?_)
  have h := h hR0
  refine V_aload_n 0 rfl rfl dX1_deepen_0 ?_
  refine V_getR (f := 1) ci_X1 sh_61 rfl (by decide) (c1 := 63) rfl dX1_deepen_1 lk_RX1_f15 ?_
  refine V_iconst dX1_deepen_4 ?_
  refine V_cS (M' := mJ7_fill_53178) (As := [.ref (cxA X 63), .int (gI 0)]) (fun _ => []) ok_J7_fill_53178 ok2_J7_fill_53178 rfl rfl (Nat.le_of_ble_eq_true rfl) dX1_deepen_5 lk_RX1_m35 (by decide) (fun _ => rfl) h (fun r1 σ2 h => ?_)
  refine V_rng (fun hR3 => ?_)
  have h := h hR3
  refine V_iconst dX1_deepen_8 ?_
  refine V_istore_n (L' := [(2, .int (gI 0)), (0, .ref (cxA X 61)), (1, .int (gI v1))]) rfl (by decide) rfl dX1_deepen_9 ?_
  exact V_sub [1, 2, 0] rfl h
set_option maxHeartbeats 2000000 in
set_option maxRecDepth 20000 in
theorem rX1_deepen_10 {X : Cx} {v1 : Int} {v2 : Int} {σ : Sg} {Q : Int → Sg → Prop} (h : Rng σ → (inI v2) ∧ (inI v1) ∧ ((v1 ≤ v2 → GX1_deepen_54 X v1 v2 σ Q) ∧ (v2 < v1 → (inI v2) ∧ ((8 ≤ v2 → GX1_deepen_54 X v1 v2 σ Q) ∧ (v2 < 8 → KX1_saidOf X v2 σ (fun r6 σ7 => Rng σ7 → KX11_isWithin X r6 8 σ7 (fun r9 σ10 => Rng σ10 → (inI r9) ∧ ((r9 = 0 → GX1_deepen_48 X v1 v2 r6 σ10 Q) ∧ (¬ r9 = 0 → (0 ≤ r6 ∧ r6 < 8) ∧ (0 ≤ r6 ∧ r6 < 8) ∧ GX1_deepen_48 X v1 v2 r6 (up2 σ10 63 r6.toNat (zor (σ10 63 r6.toNat) (zshl 1 v2))) Q))))))))) : GX1_deepen_10 X v1 v2 σ Q := by
  unfold GX1_deepen_10
  refine V_rng (fun hR0 => ?_)
  have h := h hR0
  refine V_iload_n 2 rfl rfl dX1_deepen_10 ?_
  refine V_iload_n 1 rfl rfl dX1_deepen_11 ?_
  obtain ⟨g1, h⟩ := h
  obtain ⟨g2, h⟩ := h
  refine V_icmp_ge (tgt := 54) dX1_deepen_12 (by decide) g1 g2 (fun q3 => ?_) (fun q3 => ?_)
  · have h := h.1 q3
    exact h
  · have h := h.2 q3
    refine V_iload_n 2 rfl rfl dX1_deepen_15 ?_
    refine V_bipush (v := 8) (by decide) dX1_deepen_16 ?_
    obtain ⟨g4, h⟩ := h
    refine V_icmp_ge (tgt := 54) dX1_deepen_18 (by decide) g4 (by decide) (fun q5 => ?_) (fun q5 => ?_)
    · have h := h.1 q5
      exact h
    · have h := h.2 q5
      refine V_aload_n 0 rfl rfl dX1_deepen_21 ?_
      refine V_iload_n 2 rfl rfl dX1_deepen_22 ?_
      refine V_cV (M' := mX1_saidOf) (As := [.int (gI v2)]) (fun r => [.int (gI r)]) ok_X1_saidOf ok2_X1_saidOf sh_61 rfl (by decide) rfl rfl (Nat.le_of_ble_eq_true rfl) dX1_deepen_23 lk_RX1_m41 (by decide) (fun _ => rfl) h (fun r6 σ7 h => ?_)
      refine V_rng (fun hR8 => ?_)
      have h := h hR8
      refine V_istore_n (L' := [(3, .int (gI r6)), (0, .ref (cxA X 61)), (1, .int (gI v1)), (2, .int (gI v2))]) rfl (by decide) rfl dX1_deepen_26 ?_
      refine V_iload_n 0 rfl rfl dX1_deepen_27 ?_
      refine V_bipush (v := 8) (by decide) dX1_deepen_28 ?_
      refine V_cN (M' := mX11_isWithin) (As := [.int (gI r6), .int (gI 8)]) (fun r => [.int (gI r)]) ok_X11_isWithin ok2_X11_isWithin rfl rfl (Nat.le_of_ble_eq_true rfl) dX1_deepen_30 lk_RX1_m44 (by decide) (fun _ => rfl) h (fun r9 σ10 h => ?_)
      refine V_rng (fun hR11 => ?_)
      have h := h hR11
      obtain ⟨g12, h⟩ := h
      refine V_if_eq (tgt := 48) dX1_deepen_33 (by decide) g12 (fun q13 => ?_) (fun q13 => ?_)
      · have h := h.1 q13
        exact V_sub [1, 2, 3, 0] rfl h
      · have h := h.2 q13
        refine V_aload_n 1 rfl rfl dX1_deepen_36 ?_
        refine V_getR (f := 1) ci_X1 sh_61 rfl (by decide) (c1 := 63) rfl dX1_deepen_37 lk_RX1_f15 ?_
        refine V_iload_n 0 rfl rfl dX1_deepen_40 ?_
        refine V_dup2 rfl rfl dX1_deepen_41 ?_
        obtain ⟨g14, h⟩ := h
        refine V_iald sh_63 (by decide) g14 dX1_deepen_42 ?_
        refine V_iconst dX1_deepen_43 ?_
        refine V_iload_n 3 rfl rfl dX1_deepen_44 ?_
        refine V_ishl dX1_deepen_45 ?_
        refine V_ior dX1_deepen_46 ?_
        obtain ⟨g15, h⟩ := h
        refine V_iast sh_63 (by decide) g15 (inI_z _) dX1_deepen_47 ?_
        exact V_sub [1, 2, 3, 0] rfl h
set_option maxHeartbeats 2000000 in
set_option maxRecDepth 20000 in
theorem rX1_deepen_48 {X : Cx} {v1 : Int} {v2 : Int} {v3 : Int} {σ : Sg} {Q : Int → Sg → Prop} (h : Rng σ → GX1_deepen_10 X v1 (v2 + 1) σ Q) : GX1_deepen_48 X v1 v2 v3 σ Q := by
  unfold GX1_deepen_48
  refine V_rng (fun hR0 => ?_)
  have h := h hR0
  refine V_iinc (L' := [(2, .int (gI (v2 + 1))), (0, .ref (cxA X 61)), (1, .int (gI v1)), (3, .int (gI v3))]) 2 rfl (by decide) rfl dX1_deepen_48 ?_
  refine V_goto (tgt := 10) dX1_deepen_51 (by decide) ?_
  exact V_sub [1, 2, 0] rfl h
set_option maxHeartbeats 2000000 in
set_option maxRecDepth 20000 in
theorem rX1_deepen_54 {X : Cx} {v1 : Int} {v2 : Int} {σ : Sg} {Q : Int → Sg → Prop} (h : Rng σ → GX1_deepen_58 X v1 0 0 σ Q) : GX1_deepen_54 X v1 v2 σ Q := by
  unfold GX1_deepen_54
  refine V_rng (fun hR0 => ?_)
  have h := h hR0
  refine V_iconst dX1_deepen_54 ?_
  refine V_istore_n (L' := [(2, .int (gI 0)), (0, .ref (cxA X 61)), (1, .int (gI v1))]) rfl (by decide) rfl dX1_deepen_55 ?_
  refine V_iconst dX1_deepen_56 ?_
  refine V_istore_n (L' := [(3, .int (gI 0)), (2, .int (gI 0)), (0, .ref (cxA X 61)), (1, .int (gI v1))]) rfl (by decide) rfl dX1_deepen_57 ?_
  exact V_sub [2, 3, 1, 0] rfl h
set_option maxHeartbeats 2000000 in
set_option maxRecDepth 20000 in
theorem rX1_deepen_58 {X : Cx} {v1 : Int} {v2 : Int} {v3 : Int} {σ : Sg} {Q : Int → Sg → Prop} (h : Rng σ → (inI v3) ∧ (((σ 61 3) ≤ v3 → (v2 = 0 ∨ v2 = 1) ∧ Q v2 σ) ∧ (v3 < (σ 61 3) → (inI v3) ∧ ((8 ≤ v3 → (v2 = 0 ∨ v2 = 1) ∧ Q v2 σ) ∧ (v3 < 8 → (0 ≤ v3 ∧ v3 < 8) ∧ (((σ 63 v3.toNat) = 0 → GX1_deepen_110 X v1 v2 v3 σ Q) ∧ (¬ (σ 63 v3.toNat) = 0 → (0 ≤ v3 ∧ v3 < 8) ∧ (0 ≤ v3 ∧ v3 < 8) ∧ (((σ 63 v3.toNat) = (σ 62 v3.toNat) → GX1_deepen_110 X v1 v2 v3 σ Q) ∧ (¬ (σ 63 v3.toNat) = (σ 62 v3.toNat) → (0 ≤ v3 ∧ v3 < 8) ∧ (0 ≤ v3 ∧ v3 < 8) ∧ GX1_deepen_110 X v1 1 v3 (up2 σ 62 v3.toNat (σ 63 v3.toNat)) Q))))))))) : GX1_deepen_58 X v1 v2 v3 σ Q := by
  unfold GX1_deepen_58
  refine V_rng (fun hR0 => ?_)
  have h := h hR0
  refine V_iload_n 3 rfl rfl dX1_deepen_58 ?_
  refine V_aload_n 0 rfl rfl dX1_deepen_59 ?_
  refine V_getI (f := 3) ci_X1 sh_61 rfl (by decide) dX1_deepen_60 lk_RX1_f21 ?_
  obtain ⟨g1, h⟩ := h
  refine V_icmp_ge (tgt := 116) dX1_deepen_63 (by decide) g1 (show inI (σ 61 3) from (inI_sh hR0 sh_61 (by decide))) (fun q2 => ?_) (fun q2 => ?_)
  · have h := h.1 q2
    refine V_iload_n 2 rfl rfl dX1_deepen_116 ?_
    obtain ⟨g3, h⟩ := h
    exact V_iret rfl (fun _ q => by cases q) (nar_Z g3).1 dX1_deepen_117 h
  · have h := h.2 q2
    refine V_iload_n 3 rfl rfl dX1_deepen_66 ?_
    refine V_bipush (v := 8) (by decide) dX1_deepen_67 ?_
    obtain ⟨g4, h⟩ := h
    refine V_icmp_ge (tgt := 116) dX1_deepen_69 (by decide) g4 (by decide) (fun q5 => ?_) (fun q5 => ?_)
    · have h := h.1 q5
      refine V_iload_n 2 rfl rfl dX1_deepen_116 ?_
      obtain ⟨g6, h⟩ := h
      exact V_iret rfl (fun _ q => by cases q) (nar_Z g6).1 dX1_deepen_117 h
    · have h := h.2 q5
      refine V_aload_n 0 rfl rfl dX1_deepen_72 ?_
      refine V_getR (f := 1) ci_X1 sh_61 rfl (by decide) (c1 := 63) rfl dX1_deepen_73 lk_RX1_f15 ?_
      refine V_iload_n 3 rfl rfl dX1_deepen_76 ?_
      obtain ⟨g7, h⟩ := h
      refine V_iald sh_63 (by decide) g7 dX1_deepen_77 ?_
      refine V_if_eq (tgt := 110) dX1_deepen_78 (by decide) (show inI (σ 63 v3.toNat) from (inI_sh hR0 sh_63 (by decide))) (fun q8 => ?_) (fun q8 => ?_)
      · have h := h.1 q8
        exact h
      · have h := h.2 q8
        refine V_aload_n 0 rfl rfl dX1_deepen_81 ?_
        refine V_getR (f := 1) ci_X1 sh_61 rfl (by decide) (c1 := 63) rfl dX1_deepen_82 lk_RX1_f15 ?_
        refine V_iload_n 3 rfl rfl dX1_deepen_85 ?_
        obtain ⟨g9, h⟩ := h
        refine V_iald sh_63 (by decide) g9 dX1_deepen_86 ?_
        refine V_aload_n 0 rfl rfl dX1_deepen_87 ?_
        refine V_getR (f := 0) ci_X1 sh_61 rfl (by decide) (c1 := 62) rfl dX1_deepen_88 lk_RX1_f9 ?_
        refine V_iload_n 3 rfl rfl dX1_deepen_91 ?_
        obtain ⟨g10, h⟩ := h
        refine V_iald sh_62 (by decide) g10 dX1_deepen_92 ?_
        refine V_icmp_eq (tgt := 110) dX1_deepen_93 (by decide) (show inI (σ 63 v3.toNat) from (inI_sh hR0 sh_63 (by decide))) (show inI (σ 62 v3.toNat) from (inI_sh hR0 sh_62 (by decide))) (fun q11 => ?_) (fun q11 => ?_)
        · have h := h.1 q11
          exact h
        · have h := h.2 q11
          refine V_aload_n 0 rfl rfl dX1_deepen_96 ?_
          refine V_getR (f := 0) ci_X1 sh_61 rfl (by decide) (c1 := 62) rfl dX1_deepen_97 lk_RX1_f9 ?_
          refine V_iload_n 3 rfl rfl dX1_deepen_100 ?_
          refine V_aload_n 0 rfl rfl dX1_deepen_101 ?_
          refine V_getR (f := 1) ci_X1 sh_61 rfl (by decide) (c1 := 63) rfl dX1_deepen_102 lk_RX1_f15 ?_
          refine V_iload_n 3 rfl rfl dX1_deepen_105 ?_
          obtain ⟨g12, h⟩ := h
          refine V_iald sh_63 (by decide) g12 dX1_deepen_106 ?_
          obtain ⟨g13, h⟩ := h
          refine V_iast sh_62 (by decide) g13 (show inI (σ 63 v3.toNat) from (inI_sh hR0 sh_63 (by decide))) dX1_deepen_107 ?_
          refine V_iconst dX1_deepen_108 ?_
          refine V_istore_n (L' := [(2, .int (gI 1)), (0, .ref (cxA X 61)), (1, .int (gI v1)), (3, .int (gI v3))]) rfl (by decide) rfl dX1_deepen_109 ?_
          exact V_sub [1, 2, 0, 3] rfl h
set_option maxHeartbeats 2000000 in
set_option maxRecDepth 20000 in
theorem rX1_deepen_110 {X : Cx} {v1 : Int} {v2 : Int} {v3 : Int} {σ : Sg} {Q : Int → Sg → Prop} (h : Rng σ → GX1_deepen_58 X v1 v2 (v3 + 1) σ Q) : GX1_deepen_110 X v1 v2 v3 σ Q := by
  unfold GX1_deepen_110
  refine V_rng (fun hR0 => ?_)
  have h := h hR0
  refine V_iinc (L' := [(3, .int (gI (v3 + 1))), (0, .ref (cxA X 61)), (1, .int (gI v1)), (2, .int (gI v2))]) 3 rfl (by decide) rfl dX1_deepen_110 ?_
  refine V_goto (tgt := 58) dX1_deepen_113 (by decide) ?_
  exact V_sub [1, 2, 3, 0] rfl h
theorem eX1_deepen {X : Cx} {v1 : Int} {σ : Sg} {Q : Int → Sg → Prop} (h : GX1_deepen_0 X v1 σ Q) : KX1_deepen X v1 σ Q := V_enter (by decide) (Nat.le_of_ble_eq_true rfl) rfl h
def GX4_meaning_0 (X : Cx) (c0 : Nat) (σ : Sg) (Q : Int → Sg → Prop) : Prop := VV X mX4_meaning 0 [(0, .ref (cxA X c0)), (1, .ref (cxA X 1))] [] σ Q
def GX4_meaning_14 (X : Cx) (c0 : Nat) (v2 : Int) (v3 : Int) (σ : Sg) (Q : Int → Sg → Prop) : Prop := VV X mX4_meaning 14 [(0, .ref (cxA X c0)), (1, .ref (cxA X 1)), (2, .int (gI v2)), (3, .int (gI v3))] [] σ Q
def GX4_meaning_68 (X : Cx) (c0 : Nat) (v2 : Int) (v3 : Int) (v4 : Int) (v5 : Int) (σ : Sg) (Q : Int → Sg → Prop) : Prop := VV X mX4_meaning 68 [(0, .ref (cxA X c0)), (1, .ref (cxA X 1)), (2, .int (gI v2)), (3, .int (gI v3)), (4, .int (gI v4)), (5, .int (gI v5))] [] σ Q
def GX4_meaning_104 (X : Cx) (c0 : Nat) (v2 : Int) (v3 : Int) (v4 : Int) (v5 : Int) (σ : Sg) (Q : Int → Sg → Prop) : Prop := VV X mX4_meaning 104 [(0, .ref (cxA X c0)), (1, .ref (cxA X 1)), (2, .int (gI v2)), (3, .int (gI v3)), (4, .int (gI v4)), (5, .int (gI v5))] [] σ Q
def GX4_meaning_145 (X : Cx) (c0 : Nat) (v2 : Int) (v3 : Int) (v4 : Int) (v5 : Int) (σ : Sg) (Q : Int → Sg → Prop) : Prop := VV X mX4_meaning 145 [(0, .ref (cxA X c0)), (1, .ref (cxA X 1)), (2, .int (gI v2)), (3, .int (gI v3)), (4, .int (gI v4)), (5, .int (gI v5))] [] σ Q
set_option maxHeartbeats 2000000 in
set_option maxRecDepth 20000 in
theorem rX4_meaning_0 {X : Cx} {c0 : Nat} (hc0 : isSay c0) {σ : Sg} {Q : Int → Sg → Prop} (h : Rng σ → GX4_meaning_14 X c0 0 (((if 24 < (σ c0 2) then 24 else (σ c0 2))) - 1) σ Q) : GX4_meaning_0 X c0 σ Q := by
  unfold GX4_meaning_0
  refine V_rng (fun hR0 => ?_)
  have h := h hR0
  refine V_iconst dX4_meaning_0 ?_
  refine V_istore_n (L' := [(2, .int (gI 0)), (0, .ref (cxA X c0)), (1, .ref (cxA X 1))]) rfl (by decide) rfl dX4_meaning_1 ?_
  refine V_aload_n 1 rfl rfl dX4_meaning_2 ?_
  refine V_getI (f := 2) ci_X4 hc0.1 rfl (by decide) dX4_meaning_3 lk_RX4_f16 ?_
  refine V_bipush (v := 24) (by decide) dX4_meaning_6 ?_
  refine V_mmin (show inI (σ c0 2) from (inI_sh hR0 hc0.1 (by decide))) (by decide) ok_mmin dX4_meaning_8 lk_RX4_m24 (by decide) (Nat.le_of_ble_eq_true rfl) ?_
  refine V_iconst dX4_meaning_11 ?_
  refine V_isub dX4_meaning_12 ?_
  refine V_istore_n (L' := [(3, .int (gI (((if 24 < (σ c0 2) then 24 else (σ c0 2))) - 1))), (2, .int (gI 0)), (0, .ref (cxA X c0)), (1, .ref (cxA X 1))]) rfl (by decide) rfl dX4_meaning_13 ?_
  exact V_sub [2, 3, 1, 0] rfl h
set_option maxHeartbeats 2000000 in
set_option maxRecDepth 20000 in
theorem rX4_meaning_14 {X : Cx} {c0 : Nat} {v2 : Int} {v3 : Int} (hc0 : isSay c0) {σ : Sg} {Q : Int → Sg → Prop} (h : Rng σ → (inI v3) ∧ ((v3 < 0 → Q (σ (c0 + 2) 0) σ) ∧ (0 ≤ v3 → (0 ≤ v3 ∧ v3 < 24) ∧ KX10_parts X (zshr (σ (c0 + 1) v3.toNat) 3) σ (fun r4 σ5 => Rng σ5 → (inI r4) ∧ ((¬ r4 = 0 → GX4_meaning_68 X c0 v2 v3 (zshr (σ (c0 + 1) v3.toNat) 3) r4 σ5 Q) ∧ (r4 = 0 → (inI v2) ∧ ((24 ≤ v2 → GX4_meaning_68 X c0 v2 v3 (zshr (σ (c0 + 1) v3.toNat) 3) r4 σ5 Q) ∧ (v2 < 24 → (0 ≤ v3 ∧ v3 < 24) ∧ KX5_named X (σ5 (c0 + 1) v3.toNat) σ5 (fun r12 σ13 => Rng σ13 → (0 ≤ v2 ∧ v2 < 24) ∧ (inI r12) ∧ GX4_meaning_145 X c0 (v2 + 1) v3 (zshr (σ (c0 + 1) v3.toNat) 3) r4 (up2 σ13 (c0 + 2) v2.toNat r12) Q))))))))) : GX4_meaning_14 X c0 v2 v3 σ Q := by
  unfold GX4_meaning_14
  refine V_rng (fun hR0 => ?_)
  have h := h hR0
  refine V_iload_n 3 rfl rfl dX4_meaning_14 ?_
  obtain ⟨g1, h⟩ := h
  refine V_if_lt (tgt := 151) dX4_meaning_15 (by decide) g1 (fun q2 => ?_) (fun q2 => ?_)
  · have h := h.1 q2
    refine V_aload_n 0 rfl rfl dX4_meaning_151 ?_
    refine V_getR (f := 1) ci_X4 hc0.1 rfl (by decide) (c1 := (c0 + 2)) rfl dX4_meaning_152 lk_RX4_f13 ?_
    refine V_iconst dX4_meaning_155 ?_
    refine V_iald hc0.2.2 (by decide) (by decide) dX4_meaning_156 ?_
    exact V_iret rfl (fun _ q => by cases q) (vp_nar_int _) dX4_meaning_157 h
  · have h := h.2 q2
    refine V_aload_n 0 rfl rfl dX4_meaning_18 ?_
    refine V_getR (f := 0) ci_X4 hc0.1 rfl (by decide) (c1 := (c0 + 1)) rfl dX4_meaning_19 lk_RX4_f9 ?_
    refine V_iload_n 3 rfl rfl dX4_meaning_22 ?_
    obtain ⟨g3, h⟩ := h
    refine V_iald hc0.2.1 (by decide) g3 dX4_meaning_23 ?_
    refine V_iconst dX4_meaning_24 ?_
    refine V_ishr dX4_meaning_25 ?_
    refine V_istore (L' := [(4, .int (gI (zshr (σ (c0 + 1) v3.toNat) 3))), (0, .ref (cxA X c0)), (1, .ref (cxA X 1)), (2, .int (gI v2)), (3, .int (gI v3))]) (by decide) rfl dX4_meaning_26 ?_
    refine V_iload 0 rfl dX4_meaning_28 ?_
    refine V_cS (M' := mX10_parts) (As := [.int (gI (zshr (σ (c0 + 1) v3.toNat) 3))]) (fun r => [.int (gI r)]) ok_X10_parts ok2_X10_parts rfl rfl (Nat.le_of_ble_eq_true rfl) dX4_meaning_30 lk_RX4_m30 (by decide) (fun _ => rfl) h (fun r4 σ5 h => ?_)
    refine V_rng (fun hR6 => ?_)
    have h := h hR6
    refine V_istore (L' := [(5, .int (gI r4)), (4, .int (gI (zshr (σ (c0 + 1) v3.toNat) 3))), (0, .ref (cxA X c0)), (1, .ref (cxA X 1)), (2, .int (gI v2)), (3, .int (gI v3))]) (by decide) rfl dX4_meaning_33 ?_
    refine V_iload 0 rfl dX4_meaning_35 ?_
    obtain ⟨g7, h⟩ := h
    refine V_if_ne (tgt := 68) dX4_meaning_37 (by decide) g7 (fun q8 => ?_) (fun q8 => ?_)
    · have h := h.1 q8
      exact V_sub [2, 3, 4, 5, 1, 0] rfl h
    · have h := h.2 q8
      refine V_iload_n 4 rfl rfl dX4_meaning_40 ?_
      refine V_bipush (v := 24) (by decide) dX4_meaning_41 ?_
      obtain ⟨g9, h⟩ := h
      refine V_icmp_ge (tgt := 68) dX4_meaning_43 (by decide) g9 (by decide) (fun q10 => ?_) (fun q10 => ?_)
      · have h := h.1 q10
        exact V_sub [2, 3, 4, 5, 1, 0] rfl h
      · have h := h.2 q10
        refine V_aload_n 2 rfl rfl dX4_meaning_46 ?_
        refine V_getR (f := 1) ci_X4 hc0.1 rfl (by decide) (c1 := (c0 + 2)) rfl dX4_meaning_47 lk_RX4_f13 ?_
        refine V_iload_n 4 rfl rfl dX4_meaning_50 ?_
        refine V_iinc (L' := [(2, .int (gI (v2 + 1))), (5, .int (gI r4)), (4, .int (gI (zshr (σ (c0 + 1) v3.toNat) 3))), (0, .ref (cxA X c0)), (1, .ref (cxA X 1)), (3, .int (gI v3))]) 4 rfl (by decide) rfl dX4_meaning_51 ?_
        refine V_aload_n 4 rfl rfl dX4_meaning_54 ?_
        refine V_aload_n 3 rfl rfl dX4_meaning_55 ?_
        refine V_getR (f := 0) ci_X4 hc0.1 rfl (by decide) (c1 := (c0 + 1)) rfl dX4_meaning_56 lk_RX4_f9 ?_
        refine V_iload_n 5 rfl rfl dX4_meaning_59 ?_
        obtain ⟨g11, h⟩ := h
        refine V_iald hc0.2.1 (by decide) g11 dX4_meaning_60 ?_
        refine V_cV (M' := mX5_named) (As := [.int (gI (σ5 (c0 + 1) v3.toNat))]) (fun r => [.int (gI r), .int (gI v2), .ref (cxA X (c0 + 2))]) ok_X5_named ok2_X5_named sh_1 rfl (by decide) rfl rfl (Nat.le_of_ble_eq_true rfl) dX4_meaning_61 lk_RX4_m36 (by decide) (fun _ => rfl) h (fun r12 σ13 h => ?_)
        refine V_rng (fun hR14 => ?_)
        have h := h hR14
        obtain ⟨g15, h⟩ := h
        obtain ⟨g16, h⟩ := h
        refine V_iast hc0.2.2 (by decide) g15 g16 dX4_meaning_64 ?_
        refine V_goto (tgt := 145) dX4_meaning_65 (by decide) ?_
        exact V_sub [3, 4, 0, 5, 2, 1] rfl h
set_option maxHeartbeats 2000000 in
set_option maxRecDepth 20000 in
theorem rX4_meaning_68 {X : Cx} {c0 : Nat} {v2 : Int} {v3 : Int} {v4 : Int} {v5 : Int} (hc0 : isSay c0) {σ : Sg} {Q : Int → Sg → Prop} (h : Rng σ → (inI v5) ∧ ((¬ v5 = 1 → GX4_meaning_104 X c0 v2 v3 v4 v5 σ Q) ∧ (v5 = 1 → (inI v2) ∧ ((v2 < 1 → GX4_meaning_104 X c0 v2 v3 v4 v5 σ Q) ∧ (1 ≤ v2 → (0 ≤ v2 - 1 ∧ v2 - 1 < 24) ∧ KX5_turned X v4 (σ (c0 + 2) ((v2 - 1).toNat)) σ (fun r6 σ7 => Rng σ7 → (0 ≤ v2 - 1 ∧ v2 - 1 < 24) ∧ (inI r6) ∧ GX4_meaning_145 X c0 v2 v3 v4 v5 (up2 σ7 (c0 + 2) ((v2 - 1).toNat) r6) Q)))))) : GX4_meaning_68 X c0 v2 v3 v4 v5 σ Q := by
  unfold GX4_meaning_68
  refine V_rng (fun hR0 => ?_)
  have h := h hR0
  refine V_iload 5 rfl dX4_meaning_68 ?_
  refine V_iconst dX4_meaning_70 ?_
  obtain ⟨g1, h⟩ := h
  refine V_icmp_ne (tgt := 104) dX4_meaning_71 (by decide) g1 (by decide) (fun q2 => ?_) (fun q2 => ?_)
  · have h := h.1 q2
    exact h
  · have h := h.2 q2
    refine V_iload_n 2 rfl rfl dX4_meaning_74 ?_
    refine V_iconst dX4_meaning_75 ?_
    obtain ⟨g3, h⟩ := h
    refine V_icmp_lt (tgt := 104) dX4_meaning_76 (by decide) g3 (by decide) (fun q4 => ?_) (fun q4 => ?_)
    · have h := h.1 q4
      exact h
    · have h := h.2 q4
      refine V_aload_n 0 rfl rfl dX4_meaning_79 ?_
      refine V_getR (f := 1) ci_X4 hc0.1 rfl (by decide) (c1 := (c0 + 2)) rfl dX4_meaning_80 lk_RX4_f13 ?_
      refine V_iload_n 2 rfl rfl dX4_meaning_83 ?_
      refine V_iconst dX4_meaning_84 ?_
      refine V_isub dX4_meaning_85 ?_
      refine V_aload_n 1 rfl rfl dX4_meaning_86 ?_
      refine V_iload 4 rfl dX4_meaning_87 ?_
      refine V_aload_n 0 rfl rfl dX4_meaning_89 ?_
      refine V_getR (f := 1) ci_X4 hc0.1 rfl (by decide) (c1 := (c0 + 2)) rfl dX4_meaning_90 lk_RX4_f13 ?_
      refine V_iload_n 2 rfl rfl dX4_meaning_93 ?_
      refine V_iconst dX4_meaning_94 ?_
      refine V_isub dX4_meaning_95 ?_
      obtain ⟨g5, h⟩ := h
      refine V_iald hc0.2.2 (by decide) g5 dX4_meaning_96 ?_
      refine V_cV (M' := mX5_turned) (As := [.int (gI v4), .int (gI (σ (c0 + 2) ((v2 - 1).toNat)))]) (fun r => [.int (gI r), .int (gI (v2 - 1)), .ref (cxA X (c0 + 2))]) ok_X5_turned ok2_X5_turned sh_1 rfl (by decide) rfl rfl (Nat.le_of_ble_eq_true rfl) dX4_meaning_97 lk_RX4_m41 (by decide) (fun _ => rfl) h (fun r6 σ7 h => ?_)
      refine V_rng (fun hR8 => ?_)
      have h := h hR8
      obtain ⟨g9, h⟩ := h
      obtain ⟨g10, h⟩ := h
      refine V_iast hc0.2.2 (by decide) g9 g10 dX4_meaning_100 ?_
      refine V_goto (tgt := 145) dX4_meaning_101 (by decide) ?_
      exact h
set_option maxHeartbeats 2000000 in
set_option maxRecDepth 20000 in
theorem rX4_meaning_104 {X : Cx} {c0 : Nat} {v2 : Int} {v3 : Int} {v4 : Int} {v5 : Int} (hc0 : isSay c0) {σ : Sg} {Q : Int → Sg → Prop} (h : Rng σ → (inI v5) ∧ ((¬ v5 = 2 → GX4_meaning_145 X c0 v2 v3 v4 v5 σ Q) ∧ (v5 = 2 → (inI v2) ∧ ((v2 < 2 → GX4_meaning_145 X c0 v2 v3 v4 v5 σ Q) ∧ (2 ≤ v2 → (0 ≤ v2 + (-1) ∧ v2 + (-1) < 24) ∧ (0 ≤ (v2 + (-1)) - 1 ∧ (v2 + (-1)) - 1 < 24) ∧ KX10_join X v4 (σ (c0 + 2) ((v2 + (-1)).toNat)) (σ (c0 + 2) (((v2 + (-1)) - 1).toNat)) σ (fun r7 σ8 => Rng σ8 → (0 ≤ (v2 + (-1)) - 1 ∧ (v2 + (-1)) - 1 < 24) ∧ (inI r7) ∧ GX4_meaning_145 X c0 (v2 + (-1)) v3 v4 v5 (up2 σ8 (c0 + 2) (((v2 + (-1)) - 1).toNat) r7) Q)))))) : GX4_meaning_104 X c0 v2 v3 v4 v5 σ Q := by
  unfold GX4_meaning_104
  refine V_rng (fun hR0 => ?_)
  have h := h hR0
  refine V_iload 5 rfl dX4_meaning_104 ?_
  refine V_iconst dX4_meaning_106 ?_
  obtain ⟨g1, h⟩ := h
  refine V_icmp_ne (tgt := 145) dX4_meaning_107 (by decide) g1 (by decide) (fun q2 => ?_) (fun q2 => ?_)
  · have h := h.1 q2
    exact h
  · have h := h.2 q2
    refine V_iload_n 2 rfl rfl dX4_meaning_110 ?_
    refine V_iconst dX4_meaning_111 ?_
    obtain ⟨g3, h⟩ := h
    refine V_icmp_lt (tgt := 145) dX4_meaning_112 (by decide) g3 (by decide) (fun q4 => ?_) (fun q4 => ?_)
    · have h := h.1 q4
      exact h
    · have h := h.2 q4
      refine V_iinc (L' := [(2, .int (gI (v2 + (-1)))), (0, .ref (cxA X c0)), (1, .ref (cxA X 1)), (3, .int (gI v3)), (4, .int (gI v4)), (5, .int (gI v5))]) 2 rfl (by decide) rfl dX4_meaning_115 ?_
      refine V_aload_n 1 rfl rfl dX4_meaning_118 ?_
      refine V_getR (f := 1) ci_X4 hc0.1 rfl (by decide) (c1 := (c0 + 2)) rfl dX4_meaning_119 lk_RX4_f13 ?_
      refine V_iload_n 0 rfl rfl dX4_meaning_122 ?_
      refine V_iconst dX4_meaning_123 ?_
      refine V_isub dX4_meaning_124 ?_
      refine V_iload 4 rfl dX4_meaning_125 ?_
      refine V_aload_n 1 rfl rfl dX4_meaning_127 ?_
      refine V_getR (f := 1) ci_X4 hc0.1 rfl (by decide) (c1 := (c0 + 2)) rfl dX4_meaning_128 lk_RX4_f13 ?_
      refine V_iload_n 0 rfl rfl dX4_meaning_131 ?_
      obtain ⟨g5, h⟩ := h
      refine V_iald hc0.2.2 (by decide) g5 dX4_meaning_132 ?_
      refine V_aload_n 1 rfl rfl dX4_meaning_133 ?_
      refine V_getR (f := 1) ci_X4 hc0.1 rfl (by decide) (c1 := (c0 + 2)) rfl dX4_meaning_134 lk_RX4_f13 ?_
      refine V_iload_n 0 rfl rfl dX4_meaning_137 ?_
      refine V_iconst dX4_meaning_138 ?_
      refine V_isub dX4_meaning_139 ?_
      obtain ⟨g6, h⟩ := h
      refine V_iald hc0.2.2 (by decide) g6 dX4_meaning_140 ?_
      refine V_cS (M' := mX10_join) (As := [.int (gI v4), .int (gI (σ (c0 + 2) ((v2 + (-1)).toNat))), .int (gI (σ (c0 + 2) (((v2 + (-1)) - 1).toNat)))]) (fun r => [.int (gI r), .int (gI ((v2 + (-1)) - 1)), .ref (cxA X (c0 + 2))]) ok_X10_join ok2_X10_join rfl rfl (Nat.le_of_ble_eq_true rfl) dX4_meaning_141 lk_RX4_m44 (by decide) (fun _ => rfl) h (fun r7 σ8 h => ?_)
      refine V_rng (fun hR9 => ?_)
      have h := h hR9
      obtain ⟨g10, h⟩ := h
      obtain ⟨g11, h⟩ := h
      refine V_iast hc0.2.2 (by decide) g10 g11 dX4_meaning_144 ?_
      exact V_sub [1, 2, 0, 3, 4, 5] rfl h
set_option maxHeartbeats 2000000 in
set_option maxRecDepth 20000 in
theorem rX4_meaning_145 {X : Cx} {c0 : Nat} {v2 : Int} {v3 : Int} {v4 : Int} {v5 : Int} (hc0 : isSay c0) {σ : Sg} {Q : Int → Sg → Prop} (h : Rng σ → GX4_meaning_14 X c0 v2 (v3 + (-1)) σ Q) : GX4_meaning_145 X c0 v2 v3 v4 v5 σ Q := by
  unfold GX4_meaning_145
  refine V_rng (fun hR0 => ?_)
  have h := h hR0
  refine V_iinc (L' := [(3, .int (gI (v3 + (-1)))), (0, .ref (cxA X c0)), (1, .ref (cxA X 1)), (2, .int (gI v2)), (4, .int (gI v4)), (5, .int (gI v5))]) 3 rfl (by decide) rfl dX4_meaning_145 ?_
  refine V_goto (tgt := 14) dX4_meaning_148 (by decide) ?_
  exact V_sub [1, 2, 3, 0] rfl h
theorem eX4_meaning {X : Cx} {c0 : Nat} {σ : Sg} {Q : Int → Sg → Prop} (h : GX4_meaning_0 X c0 σ Q) : KX4_meaning X c0 σ Q := V_enter (by decide) (Nat.le_of_ble_eq_true rfl) rfl h
def GX2_hearAs_0 (X : Cx) (v3 : Int) (v4 : Int) (σ : Sg) (Q : Int → Sg → Prop) : Prop := VV X mX2_hearAs 0 [(0, .ref (cxA X 65)), (1, .ref (cxA X 1)), (2, .ref (cxA X 14)), (3, .int (gI v3)), (4, .int (gI v4))] [] σ Q
def GX2_hearAs_32 (X : Cx) (v3 : Int) (v4 : Int) (v5 : Int) (v6 : Int) (v7 : Int) (σ : Sg) (Q : Int → Sg → Prop) : Prop := VV X mX2_hearAs 32 [(0, .ref (cxA X 65)), (1, .ref (cxA X 1)), (2, .ref (cxA X 14)), (3, .int (gI v3)), (4, .int (gI v4)), (5, .int (gI v5)), (6, .int (gI v6)), (7, .int (gI v7))] [] σ Q
def GX2_hearAs_94 (X : Cx) (v3 : Int) (v4 : Int) (v5 : Int) (v6 : Int) (v7 : Int) (σ : Sg) (Q : Int → Sg → Prop) : Prop := VV X mX2_hearAs 94 [(0, .ref (cxA X 65)), (1, .ref (cxA X 1)), (2, .ref (cxA X 14)), (3, .int (gI v3)), (4, .int (gI v4)), (5, .int (gI v5)), (6, .int (gI v6)), (7, .int (gI v7))] [] σ Q
set_option maxHeartbeats 2000000 in
set_option maxRecDepth 20000 in
theorem rX2_hearAs_0 {X : Cx} {v3 : Int} {v4 : Int} {σ : Sg} {Q : Int → Sg → Prop} (h : Rng σ → KX11_isWithin X v3 24 σ (fun r1 σ2 => Rng σ2 → (inI r1) ∧ ((¬ r1 = 0 → (0 ≤ v3 ∧ v3 < 24) ∧ KX10_numbers X v4 σ2 (fun r7 σ8 => Rng σ8 → (inI r7) ∧ GX2_hearAs_32 X v3 v4 (σ2 15 v3.toNat) ((if 1 < r7 then r7 else 1)) 0 σ8 Q)) ∧ (r1 = 0 → Q 0 σ2)))) : GX2_hearAs_0 X v3 v4 σ Q := by
  unfold GX2_hearAs_0
  refine V_rng (fun hR0 => ?_)
  have h := h hR0
  refine V_iload_n 3 rfl rfl dX2_hearAs_0 ?_
  refine V_bipush (v := 24) (by decide) dX2_hearAs_1 ?_
  refine V_cN (M' := mX11_isWithin) (As := [.int (gI v3), .int (gI 24)]) (fun r => [.int (gI r)]) ok_X11_isWithin ok2_X11_isWithin rfl rfl (Nat.le_of_ble_eq_true rfl) dX2_hearAs_3 lk_RX2_m49 (by decide) (fun _ => rfl) h (fun r1 σ2 h => ?_)
  refine V_rng (fun hR3 => ?_)
  have h := h hR3
  obtain ⟨g4, h⟩ := h
  refine V_if_ne (tgt := 10) dX2_hearAs_6 (by decide) g4 (fun q5 => ?_) (fun q5 => ?_)
  · have h := h.1 q5
    refine V_aload_n 2 rfl rfl dX2_hearAs_10 ?_
    refine V_getR (f := 0) ci_X4 sh_14 rfl (by decide) (c1 := 15) rfl dX2_hearAs_11 lk_RX2_f30 ?_
    refine V_iload_n 3 rfl rfl dX2_hearAs_14 ?_
    obtain ⟨g6, h⟩ := h
    refine V_iald sh_15 (by decide) g6 dX2_hearAs_15 ?_
    refine V_istore (L' := [(5, .int (gI (σ2 15 v3.toNat))), (0, .ref (cxA X 65)), (1, .ref (cxA X 1)), (2, .ref (cxA X 14)), (3, .int (gI v3)), (4, .int (gI v4))]) (by decide) rfl dX2_hearAs_16 ?_
    refine V_iconst dX2_hearAs_18 ?_
    refine V_iload 5 rfl dX2_hearAs_19 ?_
    refine V_cS (M' := mX10_numbers) (As := [.int (gI v4)]) (fun r => [.int (gI r), .int (gI 1)]) ok_X10_numbers ok2_X10_numbers rfl rfl (Nat.le_of_ble_eq_true rfl) dX2_hearAs_21 lk_RX2_m53 (by decide) (fun _ => rfl) h (fun r7 σ8 h => ?_)
    refine V_rng (fun hR9 => ?_)
    have h := h hR9
    obtain ⟨g10, h⟩ := h
    refine V_mmax (by decide) g10 ok_mmax dX2_hearAs_24 lk_RX2_m56 (by decide) (Nat.le_of_ble_eq_true rfl) ?_
    refine V_istore (L' := [(6, .int (gI ((if 1 < r7 then r7 else 1)))), (5, .int (gI (σ2 15 v3.toNat))), (0, .ref (cxA X 65)), (1, .ref (cxA X 1)), (2, .ref (cxA X 14)), (3, .int (gI v3)), (4, .int (gI v4))]) (by decide) rfl dX2_hearAs_27 ?_
    refine V_iconst dX2_hearAs_29 ?_
    refine V_istore (L' := [(7, .int (gI 0)), (6, .int (gI ((if 1 < r7 then r7 else 1)))), (5, .int (gI (σ2 15 v3.toNat))), (0, .ref (cxA X 65)), (1, .ref (cxA X 1)), (2, .ref (cxA X 14)), (3, .int (gI v3)), (4, .int (gI v4))]) (by decide) rfl dX2_hearAs_30 ?_
    exact V_sub [3, 4, 5, 6, 7, 2, 1, 0] rfl h
  · have h := h.2 q5
    exact V_vret rfl dX2_hearAs_9 h
set_option maxHeartbeats 2000000 in
set_option maxRecDepth 20000 in
theorem rX2_hearAs_32 {X : Cx} {v3 : Int} {v4 : Int} {v5 : Int} {v6 : Int} {v7 : Int} {σ : Sg} {Q : Int → Sg → Prop} (h : Rng σ → (inI v7) ∧ (inI v6) ∧ ((v6 ≤ v7 → (0 ≤ v3 ∧ v3 < 24) ∧ (inI v5) ∧ Q 0 (up2 σ 15 v3.toNat v5)) ∧ (v7 < v6 → (inI ((8 * v4) + v7)) ∧ (inI v5) ∧ ((((8 * v4) + v7) = v5 → GX2_hearAs_94 X v3 v4 v5 v6 v7 σ Q) ∧ (¬ ((8 * v4) + v7) = v5 → (0 ≤ v3 ∧ v3 < 24) ∧ (inI ((8 * v4) + v7)) ∧ KX4_meaning X 14 (up2 σ 15 v3.toNat ((8 * v4) + v7)) (fun r11 σ12 => Rng σ12 → (0 ≤ zand r11 255 ∧ zand r11 255 < 256) ∧ (0 ≤ zand r11 255 ∧ zand r11 255 < 256) ∧ (inI ((σ12 66 ((zand r11 255).toNat)) + 1)) ∧ (inI ((σ12 65 1) + 1)) ∧ GX2_hearAs_94 X v3 v4 v5 v6 v7 (up2 (up2 σ12 66 ((zand r11 255).toNat) ((σ12 66 ((zand r11 255).toNat)) + 1)) 65 1 ((σ12 65 1) + 1)) Q)))))) : GX2_hearAs_32 X v3 v4 v5 v6 v7 σ Q := by
  unfold GX2_hearAs_32
  refine V_rng (fun hR0 => ?_)
  have h := h hR0
  refine V_iload 7 rfl dX2_hearAs_32 ?_
  refine V_iload 6 rfl dX2_hearAs_34 ?_
  obtain ⟨g1, h⟩ := h
  obtain ⟨g2, h⟩ := h
  refine V_icmp_ge (tgt := 100) dX2_hearAs_36 (by decide) g1 g2 (fun q3 => ?_) (fun q3 => ?_)
  · have h := h.1 q3
    refine V_aload_n 2 rfl rfl dX2_hearAs_100 ?_
    refine V_getR (f := 0) ci_X4 sh_14 rfl (by decide) (c1 := 15) rfl dX2_hearAs_101 lk_RX2_f30 ?_
    refine V_iload_n 3 rfl rfl dX2_hearAs_104 ?_
    refine V_iload 5 rfl dX2_hearAs_105 ?_
    obtain ⟨g4, h⟩ := h
    obtain ⟨g5, h⟩ := h
    refine V_iast sh_15 (by decide) g4 g5 dX2_hearAs_107 ?_
    exact V_vret rfl dX2_hearAs_108 h
  · have h := h.2 q3
    refine V_bipush (v := 8) (by decide) dX2_hearAs_39 ?_
    refine V_iload 4 rfl dX2_hearAs_41 ?_
    refine V_imul dX2_hearAs_43 ?_
    refine V_iload 7 rfl dX2_hearAs_44 ?_
    refine V_iadd dX2_hearAs_46 ?_
    refine V_iload 5 rfl dX2_hearAs_47 ?_
    obtain ⟨g6, h⟩ := h
    obtain ⟨g7, h⟩ := h
    refine V_icmp_eq (tgt := 94) dX2_hearAs_49 (by decide) g6 g7 (fun q8 => ?_) (fun q8 => ?_)
    · have h := h.1 q8
      exact h
    · have h := h.2 q8
      refine V_aload_n 2 rfl rfl dX2_hearAs_52 ?_
      refine V_getR (f := 0) ci_X4 sh_14 rfl (by decide) (c1 := 15) rfl dX2_hearAs_53 lk_RX2_f30 ?_
      refine V_iload_n 3 rfl rfl dX2_hearAs_56 ?_
      refine V_bipush (v := 8) (by decide) dX2_hearAs_57 ?_
      refine V_iload 4 rfl dX2_hearAs_59 ?_
      refine V_imul dX2_hearAs_61 ?_
      refine V_iload 7 rfl dX2_hearAs_62 ?_
      refine V_iadd dX2_hearAs_64 ?_
      obtain ⟨g9, h⟩ := h
      obtain ⟨g10, h⟩ := h
      refine V_iast sh_15 (by decide) g9 g10 dX2_hearAs_65 ?_
      refine V_aload_n 0 rfl rfl dX2_hearAs_66 ?_
      refine V_getR (f := 0) ci_X2 sh_65 rfl (by decide) (c1 := 66) rfl dX2_hearAs_67 lk_RX2_f9 ?_
      refine V_aload_n 2 rfl rfl dX2_hearAs_70 ?_
      refine V_aload_n 1 rfl rfl dX2_hearAs_71 ?_
      refine V_cV (M' := mX4_meaning) (As := [.ref (cxA X 1)]) (fun r => [.int (gI r), .ref (cxA X 66)]) ok_X4_meaning ok2_X4_meaning sh_14 rfl (by decide) rfl rfl (Nat.le_of_ble_eq_true rfl) dX2_hearAs_72 lk_RX2_m62 (by decide) (fun _ => rfl) h (fun r11 σ12 h => ?_)
      refine V_rng (fun hR13 => ?_)
      have h := h hR13
      refine V_sipush (v := 255) (by decide) dX2_hearAs_75 ?_
      refine V_iand dX2_hearAs_78 ?_
      refine V_dup2 rfl rfl dX2_hearAs_79 ?_
      obtain ⟨g14, h⟩ := h
      refine V_iald sh_66 (by decide) g14 dX2_hearAs_80 ?_
      refine V_iconst dX2_hearAs_81 ?_
      refine V_iadd dX2_hearAs_82 ?_
      obtain ⟨g15, h⟩ := h
      obtain ⟨g16, h⟩ := h
      refine V_iast sh_66 (by decide) g15 g16 dX2_hearAs_83 ?_
      refine V_aload_n 0 rfl rfl dX2_hearAs_84 ?_
      refine V_dup rfl dX2_hearAs_85 ?_
      refine V_getI (f := 1) ci_X2 sh_65 rfl (by decide) dX2_hearAs_86 lk_RX2_f21 ?_
      refine V_iconst dX2_hearAs_89 ?_
      refine V_iadd dX2_hearAs_90 ?_
      obtain ⟨g17, h⟩ := h
      refine V_putI (f := 1) ci_X2 sh_65 rfl (by decide) rfl rfl g17 dX2_hearAs_91 lk_RX2_f21 ?_
      exact h
set_option maxHeartbeats 2000000 in
set_option maxRecDepth 20000 in
theorem rX2_hearAs_94 {X : Cx} {v3 : Int} {v4 : Int} {v5 : Int} {v6 : Int} {v7 : Int} {σ : Sg} {Q : Int → Sg → Prop} (h : Rng σ → GX2_hearAs_32 X v3 v4 v5 v6 (v7 + 1) σ Q) : GX2_hearAs_94 X v3 v4 v5 v6 v7 σ Q := by
  unfold GX2_hearAs_94
  refine V_rng (fun hR0 => ?_)
  have h := h hR0
  refine V_iinc (L' := [(7, .int (gI (v7 + 1))), (0, .ref (cxA X 65)), (1, .ref (cxA X 1)), (2, .ref (cxA X 14)), (3, .int (gI v3)), (4, .int (gI v4)), (5, .int (gI v5)), (6, .int (gI v6))]) 7 rfl (by decide) rfl dX2_hearAs_94 ?_
  refine V_goto (tgt := 32) dX2_hearAs_97 (by decide) ?_
  exact V_sub [1, 2, 3, 4, 5, 6, 7, 0] rfl h
theorem eX2_hearAs {X : Cx} {v3 : Int} {v4 : Int} {σ : Sg} {Q : Int → Sg → Prop} (h : GX2_hearAs_0 X v3 v4 σ Q) : KX2_hearAs X v3 v4 σ Q := V_enter (by decide) (Nat.le_of_ble_eq_true rfl) rfl h
def GX2_hear_0 (X : Cx) (σ : Sg) (Q : Int → Sg → Prop) : Prop := VV X mX2_hear 0 [(0, .ref (cxA X 65)), (1, .ref (cxA X 1)), (2, .ref (cxA X 14))] [] σ Q
def GX2_hear_15 (X : Cx) (v3 : Int) (σ : Sg) (Q : Int → Sg → Prop) : Prop := VV X mX2_hear 15 [(0, .ref (cxA X 65)), (1, .ref (cxA X 1)), (2, .ref (cxA X 14)), (3, .int (gI v3))] [] σ Q
def GX2_hear_50 (X : Cx) (v3 : Int) (v4 : Int) (v5 : Int) (v6 : Int) (σ : Sg) (Q : Int → Sg → Prop) : Prop := VV X mX2_hear 50 [(0, .ref (cxA X 65)), (1, .ref (cxA X 1)), (2, .ref (cxA X 14)), (3, .int (gI v3)), (4, .int (gI v4)), (5, .int (gI v5)), (6, .int (gI v6))] [] σ Q
def GX2_hear_89 (X : Cx) (v3 : Int) (σ : Sg) (Q : Int → Sg → Prop) : Prop := VV X mX2_hear 89 [(0, .ref (cxA X 65)), (1, .ref (cxA X 1)), (2, .ref (cxA X 14)), (3, .int (gI v3))] [] σ Q
def GX2_hear_96 (X : Cx) (v3 : Int) (σ : Sg) (Q : Int → Sg → Prop) : Prop := VV X mX2_hear 96 [(0, .ref (cxA X 65)), (1, .ref (cxA X 1)), (2, .ref (cxA X 14)), (3, .int (gI v3))] [] σ Q
def GX2_hear_130 (X : Cx) (v3 : Int) (σ : Sg) (Q : Int → Sg → Prop) : Prop := VV X mX2_hear 130 [(0, .ref (cxA X 65)), (1, .ref (cxA X 1)), (2, .ref (cxA X 14)), (3, .int (gI v3))] [] σ Q
set_option maxHeartbeats 2000000 in
set_option maxRecDepth 20000 in
theorem rX2_hear_0 {X : Cx} {σ : Sg} {Q : Int → Sg → Prop} (h : Rng σ → KJ7_fill_53178 X 66 0 σ (fun r1 σ2 => Rng σ2 → GX2_hear_15 X 0 (up2 σ2 65 1 0) Q)) : GX2_hear_0 X σ Q := by
  unfold GX2_hear_0
  refine V_rng (fun hR0 => ?_)
  have h := h hR0
  refine V_aload_n 0 rfl rfl dX2_hear_0 ?_
  refine V_getR (f := 0) ci_X2 sh_65 rfl (by decide) (c1 := 66) rfl dX2_hear_1 lk_RX2_f9 ?_
  refine V_iconst dX2_hear_4 ?_
  refine V_cS (M' := mJ7_fill_53178) (As := [.ref (cxA X 66), .int (gI 0)]) (fun _ => []) ok_J7_fill_53178 ok2_J7_fill_53178 rfl rfl (Nat.le_of_ble_eq_true rfl) dX2_hear_5 lk_RX2_m15 (by decide) (fun _ => rfl) h (fun r1 σ2 h => ?_)
  refine V_rng (fun hR3 => ?_)
  have h := h hR3
  refine V_aload_n 0 rfl rfl dX2_hear_8 ?_
  refine V_iconst dX2_hear_9 ?_
  refine V_putI (f := 1) ci_X2 sh_65 rfl (by decide) rfl rfl (by decide) dX2_hear_10 lk_RX2_f21 ?_
  refine V_iconst dX2_hear_13 ?_
  refine V_istore_n (L' := [(3, .int (gI 0)), (0, .ref (cxA X 65)), (1, .ref (cxA X 1)), (2, .ref (cxA X 14))]) rfl (by decide) rfl dX2_hear_14 ?_
  exact V_sub [1, 2, 3, 0] rfl h
set_option maxHeartbeats 2000000 in
set_option maxRecDepth 20000 in
theorem rX2_hear_15 {X : Cx} {v3 : Int} {σ : Sg} {Q : Int → Sg → Prop} (h : Rng σ → (inI v3) ∧ (((σ 14 2) ≤ v3 → GX2_hear_89 X v3 σ Q) ∧ (v3 < (σ 14 2) → (inI v3) ∧ ((24 ≤ v3 → GX2_hear_89 X v3 σ Q) ∧ (v3 < 24 → (0 ≤ v3 ∧ v3 < 24) ∧ KX10_firstLike X (zshr (σ 15 v3.toNat) 3) σ (fun r6 σ7 => Rng σ7 → GX2_hear_50 X v3 (σ 15 v3.toNat) (zshr (σ 15 v3.toNat) 3) r6 σ7 Q)))))) : GX2_hear_15 X v3 σ Q := by
  unfold GX2_hear_15
  refine V_rng (fun hR0 => ?_)
  have h := h hR0
  refine V_iload_n 3 rfl rfl dX2_hear_15 ?_
  refine V_aload_n 2 rfl rfl dX2_hear_16 ?_
  refine V_getI (f := 2) ci_X4 sh_14 rfl (by decide) dX2_hear_17 lk_RX2_f25 ?_
  obtain ⟨g1, h⟩ := h
  refine V_icmp_ge (tgt := 89) dX2_hear_20 (by decide) g1 (show inI (σ 14 2) from (inI_sh hR0 sh_14 (by decide))) (fun q2 => ?_) (fun q2 => ?_)
  · have h := h.1 q2
    exact h
  · have h := h.2 q2
    refine V_iload_n 3 rfl rfl dX2_hear_23 ?_
    refine V_bipush (v := 24) (by decide) dX2_hear_24 ?_
    obtain ⟨g3, h⟩ := h
    refine V_icmp_ge (tgt := 89) dX2_hear_26 (by decide) g3 (by decide) (fun q4 => ?_) (fun q4 => ?_)
    · have h := h.1 q4
      exact h
    · have h := h.2 q4
      refine V_aload_n 2 rfl rfl dX2_hear_29 ?_
      refine V_getR (f := 0) ci_X4 sh_14 rfl (by decide) (c1 := 15) rfl dX2_hear_30 lk_RX2_f30 ?_
      refine V_iload_n 3 rfl rfl dX2_hear_33 ?_
      obtain ⟨g5, h⟩ := h
      refine V_iald sh_15 (by decide) g5 dX2_hear_34 ?_
      refine V_istore (L' := [(4, .int (gI (σ 15 v3.toNat))), (0, .ref (cxA X 65)), (1, .ref (cxA X 1)), (2, .ref (cxA X 14)), (3, .int (gI v3))]) (by decide) rfl dX2_hear_35 ?_
      refine V_iload 0 rfl dX2_hear_37 ?_
      refine V_iconst dX2_hear_39 ?_
      refine V_ishr dX2_hear_40 ?_
      refine V_istore (L' := [(5, .int (gI (zshr (σ 15 v3.toNat) 3))), (4, .int (gI (σ 15 v3.toNat))), (0, .ref (cxA X 65)), (1, .ref (cxA X 1)), (2, .ref (cxA X 14)), (3, .int (gI v3))]) (by decide) rfl dX2_hear_41 ?_
      refine V_iload 0 rfl dX2_hear_43 ?_
      refine V_cS (M' := mX10_firstLike) (As := [.int (gI (zshr (σ 15 v3.toNat) 3))]) (fun r => [.int (gI r)]) ok_X10_firstLike ok2_X10_firstLike rfl rfl (Nat.le_of_ble_eq_true rfl) dX2_hear_45 lk_RX2_m33 (by decide) (fun _ => rfl) h (fun r6 σ7 h => ?_)
      refine V_rng (fun hR8 => ?_)
      have h := h hR8
      refine V_istore (L' := [(6, .int (gI r6)), (5, .int (gI (zshr (σ 15 v3.toNat) 3))), (4, .int (gI (σ 15 v3.toNat))), (0, .ref (cxA X 65)), (1, .ref (cxA X 1)), (2, .ref (cxA X 14)), (3, .int (gI v3))]) (by decide) rfl dX2_hear_48 ?_
      exact V_sub [3, 4, 5, 6, 2, 1, 0] rfl h
set_option maxHeartbeats 2000000 in
set_option maxRecDepth 20000 in
theorem rX2_hear_50 {X : Cx} {v3 : Int} {v4 : Int} {v5 : Int} {v6 : Int} {σ : Sg} {Q : Int → Sg → Prop} (h : Rng σ → KX10_lastLike X v5 σ (fun r1 σ2 => Rng σ2 → (inI v6) ∧ (inI r1) ∧ ((r1 < v6 → (0 ≤ v3 ∧ v3 < 24) ∧ (inI v4) ∧ GX2_hear_15 X (v3 + 1) (up2 σ2 15 v3.toNat v4) Q) ∧ (v6 ≤ r1 → KX2_hearAs X v3 v6 σ2 (fun r9 σ10 => Rng σ10 → GX2_hear_50 X v3 v4 v5 (v6 + 1) σ10 Q))))) : GX2_hear_50 X v3 v4 v5 v6 σ Q := by
  unfold GX2_hear_50
  refine V_rng (fun hR0 => ?_)
  have h := h hR0
  refine V_iload 6 rfl dX2_hear_50 ?_
  refine V_iload 5 rfl dX2_hear_52 ?_
  refine V_cS (M' := mX10_lastLike) (As := [.int (gI v5)]) (fun r => [.int (gI r), .int (gI v6)]) ok_X10_lastLike ok2_X10_lastLike rfl rfl (Nat.le_of_ble_eq_true rfl) dX2_hear_54 lk_RX2_m39 (by decide) (fun _ => rfl) h (fun r1 σ2 h => ?_)
  refine V_rng (fun hR3 => ?_)
  have h := h hR3
  obtain ⟨g4, h⟩ := h
  obtain ⟨g5, h⟩ := h
  refine V_icmp_gt (tgt := 75) dX2_hear_57 (by decide) g4 g5 (fun q6 => ?_) (fun q6 => ?_)
  · have h := h.1 q6
    refine V_aload_n 2 rfl rfl dX2_hear_75 ?_
    refine V_getR (f := 0) ci_X4 sh_14 rfl (by decide) (c1 := 15) rfl dX2_hear_76 lk_RX2_f30 ?_
    refine V_iload_n 3 rfl rfl dX2_hear_79 ?_
    refine V_iload 4 rfl dX2_hear_80 ?_
    obtain ⟨g7, h⟩ := h
    obtain ⟨g8, h⟩ := h
    refine V_iast sh_15 (by decide) g7 g8 dX2_hear_82 ?_
    refine V_iinc (L' := [(3, .int (gI (v3 + 1))), (0, .ref (cxA X 65)), (1, .ref (cxA X 1)), (2, .ref (cxA X 14)), (4, .int (gI v4)), (5, .int (gI v5)), (6, .int (gI v6))]) 3 rfl (by decide) rfl dX2_hear_83 ?_
    refine V_goto (tgt := 15) dX2_hear_86 (by decide) ?_
    exact V_sub [1, 2, 3, 0] rfl h
  · have h := h.2 q6
    refine V_aload_n 0 rfl rfl dX2_hear_60 ?_
    refine V_aload_n 1 rfl rfl dX2_hear_61 ?_
    refine V_aload_n 2 rfl rfl dX2_hear_62 ?_
    refine V_iload_n 3 rfl rfl dX2_hear_63 ?_
    refine V_iload 6 rfl dX2_hear_64 ?_
    refine V_cV (M' := mX2_hearAs) (As := [.ref (cxA X 1), .ref (cxA X 14), .int (gI v3), .int (gI v6)]) (fun _ => []) ok_X2_hearAs ok2_X2_hearAs sh_65 rfl (by decide) rfl rfl (Nat.le_of_ble_eq_true rfl) dX2_hear_66 lk_RX2_m42 (by decide) (fun _ => rfl) h (fun r9 σ10 h => ?_)
    refine V_rng (fun hR11 => ?_)
    have h := h hR11
    refine V_iinc (L' := [(6, .int (gI (v6 + 1))), (0, .ref (cxA X 65)), (1, .ref (cxA X 1)), (2, .ref (cxA X 14)), (3, .int (gI v3)), (4, .int (gI v4)), (5, .int (gI v5))]) 6 rfl (by decide) rfl dX2_hear_69 ?_
    refine V_goto (tgt := 50) dX2_hear_72 (by decide) ?_
    exact V_sub [1, 2, 3, 4, 5, 6, 0] rfl h
set_option maxHeartbeats 2000000 in
set_option maxRecDepth 20000 in
theorem rX2_hear_89 {X : Cx} {v3 : Int} {σ : Sg} {Q : Int → Sg → Prop} (h : Rng σ → GX2_hear_96 X 1 (up2 σ 65 2 0) Q) : GX2_hear_89 X v3 σ Q := by
  unfold GX2_hear_89
  refine V_rng (fun hR0 => ?_)
  have h := h hR0
  refine V_aload_n 0 rfl rfl dX2_hear_89 ?_
  refine V_iconst dX2_hear_90 ?_
  refine V_putI (f := 2) ci_X2 sh_65 rfl (by decide) rfl rfl (by decide) dX2_hear_91 lk_RX2_f46 ?_
  refine V_iconst dX2_hear_94 ?_
  refine V_istore_n (L' := [(3, .int (gI 1)), (0, .ref (cxA X 65)), (1, .ref (cxA X 1)), (2, .ref (cxA X 14))]) rfl (by decide) rfl dX2_hear_95 ?_
  exact V_sub [1, 2, 3, 0] rfl h
set_option maxHeartbeats 2000000 in
set_option maxRecDepth 20000 in
theorem rX2_hear_96 {X : Cx} {v3 : Int} {σ : Sg} {Q : Int → Sg → Prop} (h : Rng σ → (inI v3) ∧ ((256 ≤ v3 → Q 0 σ) ∧ (v3 < 256 → (0 ≤ v3 ∧ v3 < 256) ∧ (0 ≤ zand (σ 65 2) 255 ∧ zand (σ 65 2) 255 < 256) ∧ (((σ 66 v3.toNat) ≤ (σ 66 ((zand (σ 65 2) 255).toNat)) → GX2_hear_130 X v3 σ Q) ∧ ((σ 66 ((zand (σ 65 2) 255).toNat)) < (σ 66 v3.toNat) → (inI v3) ∧ GX2_hear_130 X v3 (up2 σ 65 2 v3) Q))))) : GX2_hear_96 X v3 σ Q := by
  unfold GX2_hear_96
  refine V_rng (fun hR0 => ?_)
  have h := h hR0
  refine V_iload_n 3 rfl rfl dX2_hear_96 ?_
  refine V_sipush (v := 256) (by decide) dX2_hear_97 ?_
  obtain ⟨g1, h⟩ := h
  refine V_icmp_ge (tgt := 136) dX2_hear_100 (by decide) g1 (by decide) (fun q2 => ?_) (fun q2 => ?_)
  · have h := h.1 q2
    exact V_vret rfl dX2_hear_136 h
  · have h := h.2 q2
    refine V_aload_n 0 rfl rfl dX2_hear_103 ?_
    refine V_getR (f := 0) ci_X2 sh_65 rfl (by decide) (c1 := 66) rfl dX2_hear_104 lk_RX2_f9 ?_
    refine V_iload_n 3 rfl rfl dX2_hear_107 ?_
    obtain ⟨g3, h⟩ := h
    refine V_iald sh_66 (by decide) g3 dX2_hear_108 ?_
    refine V_aload_n 0 rfl rfl dX2_hear_109 ?_
    refine V_getR (f := 0) ci_X2 sh_65 rfl (by decide) (c1 := 66) rfl dX2_hear_110 lk_RX2_f9 ?_
    refine V_aload_n 0 rfl rfl dX2_hear_113 ?_
    refine V_getI (f := 2) ci_X2 sh_65 rfl (by decide) dX2_hear_114 lk_RX2_f46 ?_
    refine V_sipush (v := 255) (by decide) dX2_hear_117 ?_
    refine V_iand dX2_hear_120 ?_
    obtain ⟨g4, h⟩ := h
    refine V_iald sh_66 (by decide) g4 dX2_hear_121 ?_
    refine V_icmp_le (tgt := 130) dX2_hear_122 (by decide) (show inI (σ 66 v3.toNat) from (inI_sh hR0 sh_66 (by decide))) (show inI (σ 66 ((zand (σ 65 2) 255).toNat)) from (inI_sh hR0 sh_66 (by decide))) (fun q5 => ?_) (fun q5 => ?_)
    · have h := h.1 q5
      exact h
    · have h := h.2 q5
      refine V_aload_n 0 rfl rfl dX2_hear_125 ?_
      refine V_iload_n 3 rfl rfl dX2_hear_126 ?_
      obtain ⟨g6, h⟩ := h
      refine V_putI (f := 2) ci_X2 sh_65 rfl (by decide) rfl rfl g6 dX2_hear_127 lk_RX2_f46 ?_
      exact h
set_option maxHeartbeats 2000000 in
set_option maxRecDepth 20000 in
theorem rX2_hear_130 {X : Cx} {v3 : Int} {σ : Sg} {Q : Int → Sg → Prop} (h : Rng σ → GX2_hear_96 X (v3 + 1) σ Q) : GX2_hear_130 X v3 σ Q := by
  unfold GX2_hear_130
  refine V_rng (fun hR0 => ?_)
  have h := h hR0
  refine V_iinc (L' := [(3, .int (gI (v3 + 1))), (0, .ref (cxA X 65)), (1, .ref (cxA X 1)), (2, .ref (cxA X 14))]) 3 rfl (by decide) rfl dX2_hear_130 ?_
  refine V_goto (tgt := 96) dX2_hear_133 (by decide) ?_
  exact V_sub [1, 2, 3, 0] rfl h
theorem eX2_hear {X : Cx} {σ : Sg} {Q : Int → Sg → Prop} (h : GX2_hear_0 X σ Q) : KX2_hear X σ Q := V_enter (by decide) (Nat.le_of_ble_eq_true rfl) rfl h
def GX3_property_0 (X : Cx) (v1 : Int) (v2 : Int) (σ : Sg) (Q : Int → Sg → Prop) : Prop := VV X mX3_property 0 [(0, .ref (cxA X 1)), (1, .int (gI v1)), (2, .int (gI v2))] [] σ Q
set_option maxHeartbeats 2000000 in
set_option maxRecDepth 20000 in
theorem rX3_property_0 {X : Cx} {v1 : Int} {v2 : Int} {σ : Sg} {Q : Int → Sg → Prop} (h : Rng σ → (inI v1) ∧ ((¬ v1 = 0 → (inI v1) ∧ ((¬ v1 = 1 → (inI v1) ∧ ((5 ≤ v1 → Q (24 + (v1 - 5)) σ) ∧ (v1 < 5 → Q (24 + (v1 - 2)) σ))) ∧ (v1 = 1 → (0 ≤ v2 ∧ v2 < 8) ∧ Q (16 + (σ 4 v2.toNat)) σ))) ∧ (v1 = 0 → (0 ≤ v2 ∧ v2 < 8) ∧ Q (8 + (σ 3 v2.toNat)) σ))) : GX3_property_0 X v1 v2 σ Q := by
  unfold GX3_property_0
  refine V_rng (fun hR0 => ?_)
  have h := h hR0
  refine V_iload_n 1 rfl rfl dX3_property_0 ?_
  obtain ⟨g1, h⟩ := h
  refine V_if_ne (tgt := 16) dX3_property_1 (by decide) g1 (fun q2 => ?_) (fun q2 => ?_)
  · have h := h.1 q2
    refine V_iload_n 1 rfl rfl dX3_property_16 ?_
    refine V_iconst dX3_property_17 ?_
    obtain ⟨g3, h⟩ := h
    refine V_icmp_ne (tgt := 33) dX3_property_18 (by decide) g3 (by decide) (fun q4 => ?_) (fun q4 => ?_)
    · have h := h.1 q4
      refine V_bipush (v := 24) (by decide) dX3_property_33 ?_
      refine V_iload_n 1 rfl rfl dX3_property_35 ?_
      refine V_iconst dX3_property_36 ?_
      obtain ⟨g5, h⟩ := h
      refine V_icmp_ge (tgt := 46) dX3_property_37 (by decide) g5 (by decide) (fun q6 => ?_) (fun q6 => ?_)
      · have h := h.1 q6
        refine V_iload_n 1 rfl rfl dX3_property_46 ?_
        refine V_iconst dX3_property_47 ?_
        refine V_isub dX3_property_48 ?_
        refine V_iadd dX3_property_49 ?_
        exact V_iret rfl (fun _ q => by cases q) (vp_nar_int _) dX3_property_50 h
      · have h := h.2 q6
        refine V_iload_n 1 rfl rfl dX3_property_40 ?_
        refine V_iconst dX3_property_41 ?_
        refine V_isub dX3_property_42 ?_
        refine V_goto (tgt := 49) dX3_property_43 (by decide) ?_
        refine V_iadd dX3_property_49 ?_
        exact V_iret rfl (fun _ q => by cases q) (vp_nar_int _) dX3_property_50 h
    · have h := h.2 q4
      refine V_bipush (v := 16) (by decide) dX3_property_21 ?_
      refine V_aload_n 0 rfl rfl dX3_property_23 ?_
      refine V_getR (f := 0) ci_X5 sh_1 rfl (by decide) (c1 := 2) rfl dX3_property_24 lk_RX3_f27 ?_
      refine V_iconst dX3_property_27 ?_
      refine V_aald (c1 := 4) sh_2 (by decide) (by decide) rfl dX3_property_28 ?_
      refine V_iload_n 2 rfl rfl dX3_property_29 ?_
      obtain ⟨g7, h⟩ := h
      refine V_iald sh_4 (by decide) g7 dX3_property_30 ?_
      refine V_iadd dX3_property_31 ?_
      exact V_iret rfl (fun _ q => by cases q) (vp_nar_int _) dX3_property_32 h
  · have h := h.2 q2
    refine V_bipush (v := 8) (by decide) dX3_property_4 ?_
    refine V_aload_n 0 rfl rfl dX3_property_6 ?_
    refine V_getR (f := 0) ci_X5 sh_1 rfl (by decide) (c1 := 2) rfl dX3_property_7 lk_RX3_f27 ?_
    refine V_iconst dX3_property_10 ?_
    refine V_aald (c1 := 3) sh_2 (by decide) (by decide) rfl dX3_property_11 ?_
    refine V_iload_n 2 rfl rfl dX3_property_12 ?_
    obtain ⟨g8, h⟩ := h
    refine V_iald sh_3 (by decide) g8 dX3_property_13 ?_
    refine V_iadd dX3_property_14 ?_
    exact V_iret rfl (fun _ q => by cases q) (vp_nar_int _) dX3_property_15 h
theorem eX3_property {X : Cx} {v1 : Int} {v2 : Int} {σ : Sg} {Q : Int → Sg → Prop} (h : GX3_property_0 X v1 v2 σ Q) : KX3_property X v1 v2 σ Q := V_enter (by decide) (Nat.le_of_ble_eq_true rfl) rfl h
def GX3_cost_0 (X : Cx) (v2 : Int) (σ : Sg) (Q : Int → Sg → Prop) : Prop := VV X mX3_cost 0 [(0, .ref (cxA X 1)), (1, .ref (cxA X 11)), (2, .int (gI v2))] [] σ Q
def GX3_cost_19 (X : Cx) (v2 : Int) (v3 : Int) (v4 : Int) (v5 : Int) (v6 : Int) (v7 : Int) (σ : Sg) (Q : Int → Sg → Prop) : Prop := VV X mX3_cost 19 [(0, .ref (cxA X 1)), (1, .ref (cxA X 11)), (2, .int (gI v2)), (3, .int (gI v3)), (4, .int (gI v4)), (5, .int (gI v5)), (6, .int (gI v6)), (7, .int (gI v7))] [] σ Q
def GX3_cost_65 (X : Cx) (v2 : Int) (v3 : Int) (v4 : Int) (v5 : Int) (v6 : Int) (v7 : Int) (v8 : Int) (s0 : Int) (s1 : Int) (σ : Sg) (Q : Int → Sg → Prop) : Prop := VV X mX3_cost 65 [(0, .ref (cxA X 1)), (1, .ref (cxA X 11)), (2, .int (gI v2)), (3, .int (gI v3)), (4, .int (gI v4)), (5, .int (gI v5)), (6, .int (gI v6)), (7, .int (gI v7)), (8, .int (gI v8))] [.int (gI s0), .int (gI s1)] σ Q
def GX3_cost_109 (X : Cx) (v2 : Int) (v3 : Int) (v4 : Int) (v5 : Int) (v6 : Int) (v7 : Int) (v8 : Int) (v9 : Int) (s0 : Int) (s1 : Int) (s2 : Int) (σ : Sg) (Q : Int → Sg → Prop) : Prop := VV X mX3_cost 109 [(0, .ref (cxA X 1)), (1, .ref (cxA X 11)), (2, .int (gI v2)), (3, .int (gI v3)), (4, .int (gI v4)), (5, .int (gI v5)), (6, .int (gI v6)), (7, .int (gI v7)), (8, .int (gI v8)), (9, .int (gI v9))] [.int (gI s0), .int (gI s1), .int (gI s2)] σ Q
def GX3_cost_113 (X : Cx) (v2 : Int) (v3 : Int) (v4 : Int) (v5 : Int) (v6 : Int) (v7 : Int) (v8 : Int) (v9 : Int) (σ : Sg) (Q : Int → Sg → Prop) : Prop := VV X mX3_cost 113 [(0, .ref (cxA X 1)), (1, .ref (cxA X 11)), (2, .int (gI v2)), (3, .int (gI v3)), (4, .int (gI v4)), (5, .int (gI v5)), (6, .int (gI v6)), (7, .int (gI v7)), (8, .int (gI v8)), (9, .int (gI v9))] [] σ Q
def GX3_cost_119 (X : Cx) (v2 : Int) (v3 : Int) (v4 : Int) (v5 : Int) (v6 : Int) (v7 : Int) (σ : Sg) (Q : Int → Sg → Prop) : Prop := VV X mX3_cost 119 [(0, .ref (cxA X 1)), (1, .ref (cxA X 11)), (2, .int (gI v2)), (3, .int (gI v3)), (4, .int (gI v4)), (5, .int (gI v5)), (6, .int (gI v6)), (7, .int (gI v7))] [] σ Q
set_option maxHeartbeats 2000000 in
set_option maxRecDepth 20000 in
theorem rX3_cost_0 {X : Cx} {v2 : Int} {σ : Sg} {Q : Int → Sg → Prop} (h : Rng σ → KX5_all X σ (fun r1 σ2 => Rng σ2 → GX3_cost_19 X v2 r1 (zshl 1 v2) 0 0 0 σ2 Q)) : GX3_cost_0 X v2 σ Q := by
  unfold GX3_cost_0
  refine V_rng (fun hR0 => ?_)
  have h := h hR0
  refine V_aload_n 0 rfl rfl dX3_cost_0 ?_
  refine V_cV (M' := mX5_all) (As := []) (fun r => [.int (gI r)]) ok_X5_all ok2_X5_all sh_1 rfl (by decide) rfl rfl (Nat.le_of_ble_eq_true rfl) dX3_cost_1 lk_RX3_m9 (by decide) (fun _ => rfl) h (fun r1 σ2 h => ?_)
  refine V_rng (fun hR3 => ?_)
  have h := h hR3
  refine V_istore_n (L' := [(3, .int (gI r1)), (0, .ref (cxA X 1)), (1, .ref (cxA X 11)), (2, .int (gI v2))]) rfl (by decide) rfl dX3_cost_4 ?_
  refine V_iconst dX3_cost_5 ?_
  refine V_iload_n 3 rfl rfl dX3_cost_6 ?_
  refine V_ishl dX3_cost_7 ?_
  refine V_istore (L' := [(4, .int (gI (zshl 1 v2))), (3, .int (gI r1)), (0, .ref (cxA X 1)), (1, .ref (cxA X 11)), (2, .int (gI v2))]) (by decide) rfl dX3_cost_8 ?_
  refine V_iconst dX3_cost_10 ?_
  refine V_istore (L' := [(5, .int (gI 0)), (4, .int (gI (zshl 1 v2))), (3, .int (gI r1)), (0, .ref (cxA X 1)), (1, .ref (cxA X 11)), (2, .int (gI v2))]) (by decide) rfl dX3_cost_11 ?_
  refine V_iconst dX3_cost_13 ?_
  refine V_istore (L' := [(6, .int (gI 0)), (5, .int (gI 0)), (4, .int (gI (zshl 1 v2))), (3, .int (gI r1)), (0, .ref (cxA X 1)), (1, .ref (cxA X 11)), (2, .int (gI v2))]) (by decide) rfl dX3_cost_14 ?_
  refine V_iconst dX3_cost_16 ?_
  refine V_istore (L' := [(7, .int (gI 0)), (6, .int (gI 0)), (5, .int (gI 0)), (4, .int (gI (zshl 1 v2))), (3, .int (gI r1)), (0, .ref (cxA X 1)), (1, .ref (cxA X 11)), (2, .int (gI v2))]) (by decide) rfl dX3_cost_17 ?_
  exact V_sub [5, 6, 7, 4, 3, 2, 1, 0] rfl h
set_option maxHeartbeats 2000000 in
set_option maxRecDepth 20000 in
theorem rX3_cost_19 {X : Cx} {v2 : Int} {v3 : Int} {v4 : Int} {v5 : Int} {v6 : Int} {v7 : Int} {σ : Sg} {Q : Int → Sg → Prop} (h : Rng σ → (inI v7) ∧ ((8 ≤ v7 → GX3_cost_119 X v2 v3 v4 v5 v6 v7 σ Q) ∧ (v7 < 8 → (inI v3) ∧ (inI v4) ∧ ((v3 = v4 → GX3_cost_119 X v2 v3 v4 v5 v6 v7 σ Q) ∧ (¬ v3 = v4 → KX3_property X v7 v2 σ (fun r6 σ7 => Rng σ7 → (inI v7) ∧ ((5 ≤ v7 → KX5_named X r6 σ7 (fun r11 σ12 => Rng σ12 → GX3_cost_65 X v2 v3 v4 v5 v6 v7 r6 (zxor r11 ((-1))) v3 σ12 Q)) ∧ (v7 < 5 → KX5_named X r6 σ7 (fun r14 σ15 => Rng σ15 → GX3_cost_65 X v2 v3 v4 v5 v6 v7 r6 r14 v3 σ15 Q))))))))) : GX3_cost_19 X v2 v3 v4 v5 v6 v7 σ Q := by
  unfold GX3_cost_19
  refine V_rng (fun hR0 => ?_)
  have h := h hR0
  refine V_iload 7 rfl dX3_cost_19 ?_
  refine V_bipush (v := 8) (by decide) dX3_cost_21 ?_
  obtain ⟨g1, h⟩ := h
  refine V_icmp_ge (tgt := 119) dX3_cost_23 (by decide) g1 (by decide) (fun q2 => ?_) (fun q2 => ?_)
  · have h := h.1 q2
    exact h
  · have h := h.2 q2
    refine V_iload_n 3 rfl rfl dX3_cost_26 ?_
    refine V_iload 4 rfl dX3_cost_27 ?_
    obtain ⟨g3, h⟩ := h
    obtain ⟨g4, h⟩ := h
    refine V_icmp_eq (tgt := 119) dX3_cost_29 (by decide) g3 g4 (fun q5 => ?_) (fun q5 => ?_)
    · have h := h.1 q5
      exact h
    · have h := h.2 q5
      refine V_aload_n 0 rfl rfl dX3_cost_32 ?_
      refine V_iload 7 rfl dX3_cost_33 ?_
      refine V_iload_n 2 rfl rfl dX3_cost_35 ?_
      refine V_cS (M' := mX3_property) (As := [.ref (cxA X 1), .int (gI v7), .int (gI v2)]) (fun r => [.int (gI r)]) ok_X3_property ok2_X3_property rfl rfl (Nat.le_of_ble_eq_true rfl) dX3_cost_36 lk_RX3_m15 (by decide) (fun _ => rfl) h (fun r6 σ7 h => ?_)
      refine V_rng (fun hR8 => ?_)
      have h := h hR8
      refine V_istore (L' := [(8, .int (gI r6)), (0, .ref (cxA X 1)), (1, .ref (cxA X 11)), (2, .int (gI v2)), (3, .int (gI v3)), (4, .int (gI v4)), (5, .int (gI v5)), (6, .int (gI v6)), (7, .int (gI v7))]) (by decide) rfl dX3_cost_39 ?_
      refine V_iload_n 4 rfl rfl dX3_cost_41 ?_
      refine V_iload 8 rfl dX3_cost_42 ?_
      refine V_iconst dX3_cost_44 ?_
      obtain ⟨g9, h⟩ := h
      refine V_icmp_ge (tgt := 57) dX3_cost_45 (by decide) g9 (by decide) (fun q10 => ?_) (fun q10 => ?_)
      · have h := h.1 q10
        refine V_aload_n 1 rfl rfl dX3_cost_57 ?_
        refine V_iload 0 rfl dX3_cost_58 ?_
        refine V_cV (M' := mX5_named) (As := [.int (gI r6)]) (fun r => [.int (gI r), .int (gI v3)]) ok_X5_named ok2_X5_named sh_1 rfl (by decide) rfl rfl (Nat.le_of_ble_eq_true rfl) dX3_cost_60 lk_RX3_m21 (by decide) (fun _ => rfl) h (fun r11 σ12 h => ?_)
        refine V_rng (fun hR13 => ?_)
        have h := h hR13
        refine V_iconst dX3_cost_63 ?_
        refine V_ixor dX3_cost_64 ?_
        exact V_sub [1, 2, 3, 4, 5, 6, 7, 8, 0] rfl h
      · have h := h.2 q10
        refine V_aload_n 1 rfl rfl dX3_cost_48 ?_
        refine V_iload 0 rfl dX3_cost_49 ?_
        refine V_cV (M' := mX5_named) (As := [.int (gI r6)]) (fun r => [.int (gI r), .int (gI v3)]) ok_X5_named ok2_X5_named sh_1 rfl (by decide) rfl rfl (Nat.le_of_ble_eq_true rfl) dX3_cost_51 lk_RX3_m21 (by decide) (fun _ => rfl) h (fun r14 σ15 h => ?_)
        refine V_rng (fun hR16 => ?_)
        have h := h hR16
        refine V_goto (tgt := 65) dX3_cost_54 (by decide) ?_
        exact V_sub [1, 2, 3, 4, 5, 6, 7, 8, 0] rfl h
set_option maxHeartbeats 2000000 in
set_option maxRecDepth 20000 in
theorem rX3_cost_65 {X : Cx} {v2 : Int} {v3 : Int} {v4 : Int} {v5 : Int} {v6 : Int} {v7 : Int} {v8 : Int} {s0 : Int} {s1 : Int} {σ : Sg} {Q : Int → Sg → Prop} (h : Rng σ → (inI v3) ∧ (((zand s1 s0) = v3 → GX3_cost_113 X v2 v3 v4 v5 v6 v7 v8 (zand s1 s0) σ Q) ∧ (¬ (zand s1 s0) = v3 → (((zand (zand s1 s0) v4) = 0 → GX3_cost_113 X v2 v3 v4 v5 v6 v7 v8 (zand s1 s0) σ Q) ∧ (¬ (zand (zand s1 s0) v4) = 0 → (0 ≤ zshr v8 3 ∧ zshr v8 3 < 15) ∧ (inI v7) ∧ ((5 ≤ v7 → GX3_cost_109 X v2 (zand s1 s0) v4 v5 (v6 + 1) v7 v8 (zand s1 s0) (σ 11 4) (σ 11 ((zshr v8 3).toNat)) v5 σ Q) ∧ (v7 < 5 → GX3_cost_109 X v2 (zand s1 s0) v4 v5 (v6 + 1) v7 v8 (zand s1 s0) 0 (σ 11 ((zshr v8 3).toNat)) v5 σ Q))))))) : GX3_cost_65 X v2 v3 v4 v5 v6 v7 v8 s0 s1 σ Q := by
  unfold GX3_cost_65
  refine V_rng (fun hR0 => ?_)
  have h := h hR0
  refine V_iand dX3_cost_65 ?_
  refine V_istore (L' := [(9, .int (gI (zand s1 s0))), (0, .ref (cxA X 1)), (1, .ref (cxA X 11)), (2, .int (gI v2)), (3, .int (gI v3)), (4, .int (gI v4)), (5, .int (gI v5)), (6, .int (gI v6)), (7, .int (gI v7)), (8, .int (gI v8))]) (by decide) rfl dX3_cost_66 ?_
  refine V_iload 0 rfl dX3_cost_68 ?_
  refine V_iload_n 4 rfl rfl dX3_cost_70 ?_
  obtain ⟨g1, h⟩ := h
  refine V_icmp_eq (tgt := 113) dX3_cost_71 (by decide) (inI_z _) g1 (fun q2 => ?_) (fun q2 => ?_)
  · have h := h.1 q2
    exact V_sub [1, 2, 3, 4, 5, 6, 7, 8, 9, 0] rfl h
  · have h := h.2 q2
    refine V_iload 0 rfl dX3_cost_74 ?_
    refine V_iload 5 rfl dX3_cost_76 ?_
    refine V_iand dX3_cost_78 ?_
    refine V_if_eq (tgt := 113) dX3_cost_79 (by decide) (inI_z _) (fun q3 => ?_) (fun q3 => ?_)
    · have h := h.1 q3
      exact V_sub [1, 2, 3, 4, 5, 6, 7, 8, 9, 0] rfl h
    · have h := h.2 q3
      refine V_iload 0 rfl dX3_cost_82 ?_
      refine V_istore_n (L' := [(3, .int (gI (zand s1 s0))), (9, .int (gI (zand s1 s0))), (0, .ref (cxA X 1)), (1, .ref (cxA X 11)), (2, .int (gI v2)), (4, .int (gI v4)), (5, .int (gI v5)), (6, .int (gI v6)), (7, .int (gI v7)), (8, .int (gI v8))]) rfl (by decide) rfl dX3_cost_84 ?_
      refine V_iinc (L' := [(6, .int (gI (v6 + 1))), (3, .int (gI (zand s1 s0))), (9, .int (gI (zand s1 s0))), (0, .ref (cxA X 1)), (1, .ref (cxA X 11)), (2, .int (gI v2)), (4, .int (gI v4)), (5, .int (gI v5)), (7, .int (gI v7)), (8, .int (gI v8))]) 7 rfl (by decide) rfl dX3_cost_85 ?_
      refine V_iload 7 rfl dX3_cost_88 ?_
      refine V_aload_n 4 rfl rfl dX3_cost_90 ?_
      refine V_iload 9 rfl dX3_cost_91 ?_
      refine V_iconst dX3_cost_93 ?_
      refine V_ishr dX3_cost_94 ?_
      obtain ⟨g4, h⟩ := h
      refine V_iald sh_11 (by decide) g4 dX3_cost_95 ?_
      refine V_iload 8 rfl dX3_cost_96 ?_
      refine V_iconst dX3_cost_98 ?_
      obtain ⟨g5, h⟩ := h
      refine V_icmp_ge (tgt := 106) dX3_cost_99 (by decide) g5 (by decide) (fun q6 => ?_) (fun q6 => ?_)
      · have h := h.1 q6
        refine V_aload_n 4 rfl rfl dX3_cost_106 ?_
        refine V_iconst dX3_cost_107 ?_
        refine V_iald sh_11 (by decide) (by decide) dX3_cost_108 ?_
        exact V_sub [3, 4, 5, 1, 6, 7, 0, 8, 9, 2] rfl h
      · have h := h.2 q6
        refine V_iconst dX3_cost_102 ?_
        refine V_goto (tgt := 109) dX3_cost_103 (by decide) ?_
        exact V_sub [3, 4, 5, 1, 6, 7, 0, 8, 9, 2] rfl h
set_option maxHeartbeats 2000000 in
set_option maxRecDepth 20000 in
theorem rX3_cost_109 {X : Cx} {v2 : Int} {v3 : Int} {v4 : Int} {v5 : Int} {v6 : Int} {v7 : Int} {v8 : Int} {v9 : Int} {s0 : Int} {s1 : Int} {s2 : Int} {σ : Sg} {Q : Int → Sg → Prop} (h : Rng σ → GX3_cost_113 X v2 v3 v4 (s2 + (s1 + s0)) v6 v7 v8 v9 σ Q) : GX3_cost_109 X v2 v3 v4 v5 v6 v7 v8 v9 s0 s1 s2 σ Q := by
  unfold GX3_cost_109
  refine V_rng (fun hR0 => ?_)
  have h := h hR0
  refine V_iadd dX3_cost_109 ?_
  refine V_iadd dX3_cost_110 ?_
  refine V_istore (L' := [(5, .int (gI (s2 + (s1 + s0)))), (0, .ref (cxA X 1)), (1, .ref (cxA X 11)), (2, .int (gI v2)), (3, .int (gI v3)), (4, .int (gI v4)), (6, .int (gI v6)), (7, .int (gI v7)), (8, .int (gI v8)), (9, .int (gI v9))]) (by decide) rfl dX3_cost_111 ?_
  exact V_sub [1, 2, 3, 4, 5, 0, 6, 7, 8, 9] rfl h
set_option maxHeartbeats 2000000 in
set_option maxRecDepth 20000 in
theorem rX3_cost_113 {X : Cx} {v2 : Int} {v3 : Int} {v4 : Int} {v5 : Int} {v6 : Int} {v7 : Int} {v8 : Int} {v9 : Int} {σ : Sg} {Q : Int → Sg → Prop} (h : Rng σ → GX3_cost_19 X v2 v3 v4 v5 v6 (v7 + 1) σ Q) : GX3_cost_113 X v2 v3 v4 v5 v6 v7 v8 v9 σ Q := by
  unfold GX3_cost_113
  refine V_rng (fun hR0 => ?_)
  have h := h hR0
  refine V_iinc (L' := [(7, .int (gI (v7 + 1))), (0, .ref (cxA X 1)), (1, .ref (cxA X 11)), (2, .int (gI v2)), (3, .int (gI v3)), (4, .int (gI v4)), (5, .int (gI v5)), (6, .int (gI v6)), (8, .int (gI v8)), (9, .int (gI v9))]) 7 rfl (by decide) rfl dX3_cost_113 ?_
  refine V_goto (tgt := 19) dX3_cost_116 (by decide) ?_
  exact V_sub [1, 2, 3, 4, 5, 6, 7, 0] rfl h
set_option maxHeartbeats 2000000 in
set_option maxRecDepth 20000 in
theorem rX3_cost_119 {X : Cx} {v2 : Int} {v3 : Int} {v4 : Int} {v5 : Int} {v6 : Int} {v7 : Int} {σ : Sg} {Q : Int → Sg → Prop} (h : Rng σ → (inI v3) ∧ (inI v4) ∧ ((v3 = v4 → (inI v6) ∧ ((¬ v6 = 0 → Q (v5 + ((v6 - 1) * (σ 11 5))) σ) ∧ (v6 = 0 → Q (σ 11 0) σ))) ∧ (¬ v3 = v4 → Q ((-1)) σ))) : GX3_cost_119 X v2 v3 v4 v5 v6 v7 σ Q := by
  unfold GX3_cost_119
  refine V_rng (fun hR0 => ?_)
  have h := h hR0
  refine V_iload_n 3 rfl rfl dX3_cost_119 ?_
  refine V_iload 4 rfl dX3_cost_120 ?_
  obtain ⟨g1, h⟩ := h
  obtain ⟨g2, h⟩ := h
  refine V_icmp_eq (tgt := 127) dX3_cost_122 (by decide) g1 g2 (fun q3 => ?_) (fun q3 => ?_)
  · have h := h.1 q3
    refine V_iload 6 rfl dX3_cost_127 ?_
    obtain ⟨g4, h⟩ := h
    refine V_if_ne (tgt := 138) dX3_cost_129 (by decide) g4 (fun q5 => ?_) (fun q5 => ?_)
    · have h := h.1 q5
      refine V_iload 5 rfl dX3_cost_138 ?_
      refine V_iload 6 rfl dX3_cost_140 ?_
      refine V_iconst dX3_cost_142 ?_
      refine V_isub dX3_cost_143 ?_
      refine V_aload_n 1 rfl rfl dX3_cost_144 ?_
      refine V_iconst dX3_cost_145 ?_
      refine V_iald sh_11 (by decide) (by decide) dX3_cost_146 ?_
      refine V_imul dX3_cost_147 ?_
      refine V_iadd dX3_cost_148 ?_
      exact V_iret rfl (fun _ q => by cases q) (vp_nar_int _) dX3_cost_149 h
    · have h := h.2 q5
      refine V_aload_n 1 rfl rfl dX3_cost_132 ?_
      refine V_iconst dX3_cost_133 ?_
      refine V_iald sh_11 (by decide) (by decide) dX3_cost_134 ?_
      refine V_goto (tgt := 149) dX3_cost_135 (by decide) ?_
      exact V_iret rfl (fun _ q => by cases q) (vp_nar_int _) dX3_cost_149 h
  · have h := h.2 q3
    refine V_iconst dX3_cost_125 ?_
    exact V_iret rfl (fun _ q => by cases q) (vp_nar_int _) dX3_cost_126 h
theorem eX3_cost {X : Cx} {v2 : Int} {σ : Sg} {Q : Int → Sg → Prop} (h : GX3_cost_0 X v2 σ Q) : KX3_cost X v2 σ Q := V_enter (by decide) (Nat.le_of_ble_eq_true rfl) rfl h
def GX4_add_0 (X : Cx) (c0 : Nat) (v1 : Int) (σ : Sg) (Q : Int → Sg → Prop) : Prop := VV X mX4_add 0 [(0, .ref (cxA X c0)), (1, .int (gI v1))] [] σ Q
set_option maxHeartbeats 2000000 in
set_option maxRecDepth 20000 in
theorem rX4_add_0 {X : Cx} {c0 : Nat} {v1 : Int} (hc0 : isSay c0) {σ : Sg} {Q : Int → Sg → Prop} (h : Rng σ → (((σ c0 2) < 24 → (inI ((σ c0 2) + 1)) ∧ (0 ≤ σ c0 2 ∧ σ c0 2 < 24) ∧ (inI v1) ∧ Q 1 (up2 (up2 σ c0 2 ((σ c0 2) + 1)) (c0 + 1) ((σ c0 2).toNat) v1)) ∧ (24 ≤ (σ c0 2) → Q 0 σ))) : GX4_add_0 X c0 v1 σ Q := by
  unfold GX4_add_0
  refine V_rng (fun hR0 => ?_)
  have h := h hR0
  refine V_aload_n 0 rfl rfl dX4_add_0 ?_
  refine V_getI (f := 2) ci_X4 hc0.1 rfl (by decide) dX4_add_1 lk_RX4_f16 ?_
  refine V_bipush (v := 24) (by decide) dX4_add_4 ?_
  refine V_icmp_lt (tgt := 11) dX4_add_6 (by decide) (show inI (σ c0 2) from (inI_sh hR0 hc0.1 (by decide))) (by decide) (fun q1 => ?_) (fun q1 => ?_)
  · have h := h.1 q1
    refine V_aload_n 0 rfl rfl dX4_add_11 ?_
    refine V_getR (f := 0) ci_X4 hc0.1 rfl (by decide) (c1 := (c0 + 1)) rfl dX4_add_12 lk_RX4_f9 ?_
    refine V_aload_n 0 rfl rfl dX4_add_15 ?_
    refine V_dup rfl dX4_add_16 ?_
    refine V_getI (f := 2) ci_X4 hc0.1 rfl (by decide) dX4_add_17 lk_RX4_f16 ?_
    refine V_dup_x1 rfl rfl dX4_add_20 ?_
    refine V_iconst dX4_add_21 ?_
    refine V_iadd dX4_add_22 ?_
    obtain ⟨g2, h⟩ := h
    refine V_putI (f := 2) ci_X4 hc0.1 rfl (by decide) rfl rfl g2 dX4_add_23 lk_RX4_f16 ?_
    refine V_iload_n 1 rfl rfl dX4_add_26 ?_
    obtain ⟨g3, h⟩ := h
    obtain ⟨g4, h⟩ := h
    refine V_iast hc0.2.1 (by decide) g3 g4 dX4_add_27 ?_
    refine V_iconst dX4_add_28 ?_
    exact V_iret rfl (fun _ q => by cases q) (by decide) dX4_add_29 h
  · have h := h.2 q1
    refine V_iconst dX4_add_9 ?_
    exact V_iret rfl (fun _ q => by cases q) (by decide) dX4_add_10 h
theorem eX4_add {X : Cx} {c0 : Nat} {v1 : Int} {σ : Sg} {Q : Int → Sg → Prop} (h : GX4_add_0 X c0 v1 σ Q) : KX4_add X c0 v1 σ Q := V_enter (by decide) (Nat.le_of_ble_eq_true rfl) rfl h
def GX4_addNumber_0 (X : Cx) (c0 : Nat) (v1 : Int) (σ : Sg) (Q : Int → Sg → Prop) : Prop := VV X mX4_addNumber 0 [(0, .ref (cxA X c0)), (1, .int (gI v1))] [] σ Q
set_option maxHeartbeats 2000000 in
set_option maxRecDepth 20000 in
theorem rX4_addNumber_0 {X : Cx} {c0 : Nat} {v1 : Int} (hc0 : isSay c0) {σ : Sg} {Q : Int → Sg → Prop} (h : Rng σ → (((σ c0 2) ≤ 0 → Q 0 σ) ∧ (0 < (σ c0 2) → ((24 < (σ c0 2) → Q 0 σ) ∧ ((σ c0 2) ≤ 24 → (0 ≤ (σ c0 2) - 1 ∧ (σ c0 2) - 1 < 24) ∧ (0 ≤ (σ c0 2) - 1 ∧ (σ c0 2) - 1 < 24) ∧ Q 0 (up2 σ (c0 + 1) (((σ c0 2) - 1).toNat) (zor (σ (c0 + 1) (((σ c0 2) - 1).toNat)) v1))))))) : GX4_addNumber_0 X c0 v1 σ Q := by
  unfold GX4_addNumber_0
  refine V_rng (fun hR0 => ?_)
  have h := h hR0
  refine V_aload_n 0 rfl rfl dX4_addNumber_0 ?_
  refine V_getI (f := 2) ci_X4 hc0.1 rfl (by decide) dX4_addNumber_1 lk_RX4_f16 ?_
  refine V_if_le (tgt := 31) dX4_addNumber_4 (by decide) (show inI (σ c0 2) from (inI_sh hR0 hc0.1 (by decide))) (fun q1 => ?_) (fun q1 => ?_)
  · have h := h.1 q1
    exact V_vret rfl dX4_addNumber_31 h
  · have h := h.2 q1
    refine V_aload_n 0 rfl rfl dX4_addNumber_7 ?_
    refine V_getI (f := 2) ci_X4 hc0.1 rfl (by decide) dX4_addNumber_8 lk_RX4_f16 ?_
    refine V_bipush (v := 24) (by decide) dX4_addNumber_11 ?_
    refine V_icmp_gt (tgt := 31) dX4_addNumber_13 (by decide) (show inI (σ c0 2) from (inI_sh hR0 hc0.1 (by decide))) (by decide) (fun q2 => ?_) (fun q2 => ?_)
    · have h := h.1 q2
      exact V_vret rfl dX4_addNumber_31 h
    · have h := h.2 q2
      refine V_aload_n 0 rfl rfl dX4_addNumber_16 ?_
      refine V_getR (f := 0) ci_X4 hc0.1 rfl (by decide) (c1 := (c0 + 1)) rfl dX4_addNumber_17 lk_RX4_f9 ?_
      refine V_aload_n 0 rfl rfl dX4_addNumber_20 ?_
      refine V_getI (f := 2) ci_X4 hc0.1 rfl (by decide) dX4_addNumber_21 lk_RX4_f16 ?_
      refine V_iconst dX4_addNumber_24 ?_
      refine V_isub dX4_addNumber_25 ?_
      refine V_dup2 rfl rfl dX4_addNumber_26 ?_
      obtain ⟨g3, h⟩ := h
      refine V_iald hc0.2.1 (by decide) g3 dX4_addNumber_27 ?_
      refine V_iload_n 1 rfl rfl dX4_addNumber_28 ?_
      refine V_ior dX4_addNumber_29 ?_
      obtain ⟨g4, h⟩ := h
      refine V_iast hc0.2.1 (by decide) g4 (inI_z _) dX4_addNumber_30 ?_
      exact V_vret rfl dX4_addNumber_31 h
theorem eX4_addNumber {X : Cx} {c0 : Nat} {v1 : Int} {σ : Sg} {Q : Int → Sg → Prop} (h : GX4_addNumber_0 X c0 v1 σ Q) : KX4_addNumber X c0 v1 σ Q := V_enter (by decide) (Nat.le_of_ble_eq_true rfl) rfl h
def GX4_copy_0 (X : Cx) (c0 : Nat) (σ : Sg) (Q : Int → Sg → Prop) : Prop := VV X mX4_copy 0 [(0, .ref (cxA X c0)), (1, .ref (cxA X 14))] [] σ Q
def GX4_copy_7 (X : Cx) (c0 : Nat) (v2 : Int) (σ : Sg) (Q : Int → Sg → Prop) : Prop := VV X mX4_copy 7 [(0, .ref (cxA X c0)), (1, .ref (cxA X 14)), (2, .int (gI v2))] [] σ Q
set_option maxHeartbeats 2000000 in
set_option maxRecDepth 20000 in
theorem rX4_copy_0 {X : Cx} {c0 : Nat} (hc0 : isSay c0) {σ : Sg} {Q : Int → Sg → Prop} (h : Rng σ → GX4_copy_7 X c0 0 (up2 σ c0 2 0) Q) : GX4_copy_0 X c0 σ Q := by
  unfold GX4_copy_0
  refine V_rng (fun hR0 => ?_)
  have h := h hR0
  refine V_aload_n 0 rfl rfl dX4_copy_0 ?_
  refine V_iconst dX4_copy_1 ?_
  refine V_putI (f := 2) ci_X4 hc0.1 rfl (by decide) rfl rfl (by decide) dX4_copy_2 lk_RX4_f16 ?_
  refine V_iconst dX4_copy_5 ?_
  refine V_istore_n (L' := [(2, .int (gI 0)), (0, .ref (cxA X c0)), (1, .ref (cxA X 14))]) rfl (by decide) rfl dX4_copy_6 ?_
  exact V_sub [1, 2, 0] rfl h
set_option maxHeartbeats 2000000 in
set_option maxRecDepth 20000 in
theorem rX4_copy_7 {X : Cx} {c0 : Nat} {v2 : Int} (hc0 : isSay c0) {σ : Sg} {Q : Int → Sg → Prop} (h : Rng σ → (inI v2) ∧ (((σ 14 2) ≤ v2 → Q 0 σ) ∧ (v2 < (σ 14 2) → (inI v2) ∧ ((24 ≤ v2 → Q 0 σ) ∧ (v2 < 24 → (0 ≤ v2 ∧ v2 < 24) ∧ KX4_add X c0 (σ 15 v2.toNat) σ (fun r6 σ7 => Rng σ7 → GX4_copy_7 X c0 (v2 + 1) σ7 Q)))))) : GX4_copy_7 X c0 v2 σ Q := by
  unfold GX4_copy_7
  refine V_rng (fun hR0 => ?_)
  have h := h hR0
  refine V_iload_n 2 rfl rfl dX4_copy_7 ?_
  refine V_aload_n 1 rfl rfl dX4_copy_8 ?_
  refine V_getI (f := 2) ci_X4 sh_14 rfl (by decide) dX4_copy_9 lk_RX4_f16 ?_
  obtain ⟨g1, h⟩ := h
  refine V_icmp_ge (tgt := 38) dX4_copy_12 (by decide) g1 (show inI (σ 14 2) from (inI_sh hR0 sh_14 (by decide))) (fun q2 => ?_) (fun q2 => ?_)
  · have h := h.1 q2
    exact V_vret rfl dX4_copy_38 h
  · have h := h.2 q2
    refine V_iload_n 2 rfl rfl dX4_copy_15 ?_
    refine V_bipush (v := 24) (by decide) dX4_copy_16 ?_
    obtain ⟨g3, h⟩ := h
    refine V_icmp_ge (tgt := 38) dX4_copy_18 (by decide) g3 (by decide) (fun q4 => ?_) (fun q4 => ?_)
    · have h := h.1 q4
      exact V_vret rfl dX4_copy_38 h
    · have h := h.2 q4
      refine V_aload_n 0 rfl rfl dX4_copy_21 ?_
      refine V_aload_n 1 rfl rfl dX4_copy_22 ?_
      refine V_getR (f := 0) ci_X4 sh_14 rfl (by decide) (c1 := 15) rfl dX4_copy_23 lk_RX4_f9 ?_
      refine V_iload_n 2 rfl rfl dX4_copy_26 ?_
      obtain ⟨g5, h⟩ := h
      refine V_iald sh_15 (by decide) g5 dX4_copy_27 ?_
      refine V_cV (M' := mX4_add) (As := [.int (gI (σ 15 v2.toNat))]) (fun r => [.int (gI r)]) ok_X4_add ok2_X4_add hc0.1 rfl (by decide) rfl rfl (Nat.le_of_ble_eq_true rfl) dX4_copy_28 lk_RX4_m20 (by decide) (fun _ => rfl) h (fun r6 σ7 h => ?_)
      refine V_rng (fun hR8 => ?_)
      have h := h hR8
      refine V_pop rfl dX4_copy_31 ?_
      refine V_iinc (L' := [(2, .int (gI (v2 + 1))), (0, .ref (cxA X c0)), (1, .ref (cxA X 14))]) 2 rfl (by decide) rfl dX4_copy_32 ?_
      refine V_goto (tgt := 7) dX4_copy_35 (by decide) ?_
      exact V_sub [1, 2, 0] rfl h
theorem eX4_copy {X : Cx} {c0 : Nat} {σ : Sg} {Q : Int → Sg → Prop} (h : GX4_copy_0 X c0 σ Q) : KX4_copy X c0 σ Q := V_enter (by decide) (Nat.le_of_ble_eq_true rfl) rfl h
def GX4_cost_0 (X : Cx) (c0 : Nat) (σ : Sg) (Q : Int → Sg → Prop) : Prop := VV X mX4_cost 0 [(0, .ref (cxA X c0)), (1, .ref (cxA X 11))] [] σ Q
def GX4_cost_4 (X : Cx) (c0 : Nat) (v2 : Int) (v3 : Int) (σ : Sg) (Q : Int → Sg → Prop) : Prop := VV X mX4_cost 4 [(0, .ref (cxA X c0)), (1, .ref (cxA X 11)), (2, .int (gI v2)), (3, .int (gI v3))] [] σ Q
def GX4_cost_47 (X : Cx) (c0 : Nat) (v2 : Int) (v3 : Int) (v4 : Int) (s0 : Int) (s1 : Int) (σ : Sg) (Q : Int → Sg → Prop) : Prop := VV X mX4_cost 47 [(0, .ref (cxA X c0)), (1, .ref (cxA X 11)), (2, .int (gI v2)), (3, .int (gI v3)), (4, .int (gI v4))] [.int (gI s0), .int (gI s1)] σ Q
set_option maxHeartbeats 2000000 in
set_option maxRecDepth 20000 in
theorem rX4_cost_0 {X : Cx} {c0 : Nat} (hc0 : isSay c0) {σ : Sg} {Q : Int → Sg → Prop} (h : Rng σ → GX4_cost_4 X c0 0 0 σ Q) : GX4_cost_0 X c0 σ Q := by
  unfold GX4_cost_0
  refine V_rng (fun hR0 => ?_)
  have h := h hR0
  refine V_iconst dX4_cost_0 ?_
  refine V_istore_n (L' := [(2, .int (gI 0)), (0, .ref (cxA X c0)), (1, .ref (cxA X 11))]) rfl (by decide) rfl dX4_cost_1 ?_
  refine V_iconst dX4_cost_2 ?_
  refine V_istore_n (L' := [(3, .int (gI 0)), (2, .int (gI 0)), (0, .ref (cxA X c0)), (1, .ref (cxA X 11))]) rfl (by decide) rfl dX4_cost_3 ?_
  exact V_sub [2, 3, 1, 0] rfl h
set_option maxHeartbeats 2000000 in
set_option maxRecDepth 20000 in
theorem rX4_cost_4 {X : Cx} {c0 : Nat} {v2 : Int} {v3 : Int} (hc0 : isSay c0) {σ : Sg} {Q : Int → Sg → Prop} (h : Rng σ → (inI v3) ∧ (((σ c0 2) ≤ v3 → Q v2 σ) ∧ (v3 < (σ c0 2) → (inI v3) ∧ ((24 ≤ v3 → Q v2 σ) ∧ (v3 < 24 → (0 ≤ v3 ∧ v3 < 24) ∧ KX11_isWithin X (zshr (σ (c0 + 1) v3.toNat) 3) 15 σ (fun r6 σ7 => Rng σ7 → (inI r6) ∧ ((r6 = 0 → GX4_cost_47 X c0 v2 v3 (zshr (σ (c0 + 1) v3.toNat) 3) 0 v2 σ7 Q) ∧ (¬ r6 = 0 → (0 ≤ zshr (σ (c0 + 1) v3.toNat) 3 ∧ zshr (σ (c0 + 1) v3.toNat) 3 < 15) ∧ GX4_cost_47 X c0 v2 v3 (zshr (σ (c0 + 1) v3.toNat) 3) (σ7 11 ((zshr (σ (c0 + 1) v3.toNat) 3).toNat)) v2 σ7 Q)))))))) : GX4_cost_4 X c0 v2 v3 σ Q := by
  unfold GX4_cost_4
  refine V_rng (fun hR0 => ?_)
  have h := h hR0
  refine V_iload_n 3 rfl rfl dX4_cost_4 ?_
  refine V_aload_n 0 rfl rfl dX4_cost_5 ?_
  refine V_getI (f := 2) ci_X4 hc0.1 rfl (by decide) dX4_cost_6 lk_RX4_f16 ?_
  obtain ⟨g1, h⟩ := h
  refine V_icmp_ge (tgt := 55) dX4_cost_9 (by decide) g1 (show inI (σ c0 2) from (inI_sh hR0 hc0.1 (by decide))) (fun q2 => ?_) (fun q2 => ?_)
  · have h := h.1 q2
    refine V_iload_n 2 rfl rfl dX4_cost_55 ?_
    exact V_iret rfl (fun _ q => by cases q) (vp_nar_int _) dX4_cost_56 h
  · have h := h.2 q2
    refine V_iload_n 3 rfl rfl dX4_cost_12 ?_
    refine V_bipush (v := 24) (by decide) dX4_cost_13 ?_
    obtain ⟨g3, h⟩ := h
    refine V_icmp_ge (tgt := 55) dX4_cost_15 (by decide) g3 (by decide) (fun q4 => ?_) (fun q4 => ?_)
    · have h := h.1 q4
      refine V_iload_n 2 rfl rfl dX4_cost_55 ?_
      exact V_iret rfl (fun _ q => by cases q) (vp_nar_int _) dX4_cost_56 h
    · have h := h.2 q4
      refine V_aload_n 0 rfl rfl dX4_cost_18 ?_
      refine V_getR (f := 0) ci_X4 hc0.1 rfl (by decide) (c1 := (c0 + 1)) rfl dX4_cost_19 lk_RX4_f9 ?_
      refine V_iload_n 3 rfl rfl dX4_cost_22 ?_
      obtain ⟨g5, h⟩ := h
      refine V_iald hc0.2.1 (by decide) g5 dX4_cost_23 ?_
      refine V_iconst dX4_cost_24 ?_
      refine V_ishr dX4_cost_25 ?_
      refine V_istore (L' := [(4, .int (gI (zshr (σ (c0 + 1) v3.toNat) 3))), (0, .ref (cxA X c0)), (1, .ref (cxA X 11)), (2, .int (gI v2)), (3, .int (gI v3))]) (by decide) rfl dX4_cost_26 ?_
      refine V_iload_n 3 rfl rfl dX4_cost_28 ?_
      refine V_iload 0 rfl dX4_cost_29 ?_
      refine V_aload_n 2 rfl rfl dX4_cost_31 ?_
      refine V_alen sh_11 (by decide) (by decide) dX4_cost_32 ?_
      refine V_cN (M' := mX11_isWithin) (As := [.int (gI (zshr (σ (c0 + 1) v3.toNat) 3)), .int (gI 15)]) (fun r => [.int (gI r), .int (gI v2)]) ok_X11_isWithin ok2_X11_isWithin rfl rfl (Nat.le_of_ble_eq_true rfl) dX4_cost_33 lk_RX4_m48 (by decide) (fun _ => rfl) h (fun r6 σ7 h => ?_)
      refine V_rng (fun hR8 => ?_)
      have h := h hR8
      obtain ⟨g9, h⟩ := h
      refine V_if_eq (tgt := 46) dX4_cost_36 (by decide) g9 (fun q10 => ?_) (fun q10 => ?_)
      · have h := h.1 q10
        refine V_iconst dX4_cost_46 ?_
        exact V_sub [1, 2, 3, 4, 0] rfl h
      · have h := h.2 q10
        refine V_aload_n 2 rfl rfl dX4_cost_39 ?_
        refine V_iload 0 rfl dX4_cost_40 ?_
        obtain ⟨g11, h⟩ := h
        refine V_iald sh_11 (by decide) g11 dX4_cost_42 ?_
        refine V_goto (tgt := 47) dX4_cost_43 (by decide) ?_
        exact V_sub [1, 2, 3, 4, 0] rfl h
set_option maxHeartbeats 2000000 in
set_option maxRecDepth 20000 in
theorem rX4_cost_47 {X : Cx} {c0 : Nat} {v2 : Int} {v3 : Int} {v4 : Int} {s0 : Int} {s1 : Int} (hc0 : isSay c0) {σ : Sg} {Q : Int → Sg → Prop} (h : Rng σ → GX4_cost_4 X c0 (s1 + s0) (v3 + 1) σ Q) : GX4_cost_47 X c0 v2 v3 v4 s0 s1 σ Q := by
  unfold GX4_cost_47
  refine V_rng (fun hR0 => ?_)
  have h := h hR0
  refine V_iadd dX4_cost_47 ?_
  refine V_istore_n (L' := [(2, .int (gI (s1 + s0))), (0, .ref (cxA X c0)), (1, .ref (cxA X 11)), (3, .int (gI v3)), (4, .int (gI v4))]) rfl (by decide) rfl dX4_cost_48 ?_
  refine V_iinc (L' := [(3, .int (gI (v3 + 1))), (2, .int (gI (s1 + s0))), (0, .ref (cxA X c0)), (1, .ref (cxA X 11)), (4, .int (gI v4))]) 3 rfl (by decide) rfl dX4_cost_49 ?_
  refine V_goto (tgt := 4) dX4_cost_52 (by decide) ?_
  exact V_sub [2, 3, 1, 0] rfl h
theorem eX4_cost {X : Cx} {c0 : Nat} {σ : Sg} {Q : Int → Sg → Prop} (h : GX4_cost_0 X c0 σ Q) : KX4_cost X c0 σ Q := V_enter (by decide) (Nat.le_of_ble_eq_true rfl) rfl h
def GX6_add_0 (X : Cx) (v1 : Int) (σ : Sg) (Q : Int → Sg → Prop) : Prop := VV X mX6_add 0 [(0, .ref (cxA X 67)), (1, .int (gI v1))] [] σ Q
set_option maxHeartbeats 2000000 in
set_option maxRecDepth 20000 in
theorem rX6_add_0 {X : Cx} {v1 : Int} {σ : Sg} {Q : Int → Sg → Prop} (h : Rng σ → ((12 ≤ (σ 67 1) → Q (σ 67 1) σ) ∧ ((σ 67 1) < 12 → (inI ((σ 67 1) + 1)) ∧ (0 ≤ σ 67 1 ∧ σ 67 1 < 12) ∧ (inI v1) ∧ Q ((σ 67 1) + 1) (up2 (up2 σ 67 1 ((σ 67 1) + 1)) 68 ((σ 67 1).toNat) v1)))) : GX6_add_0 X v1 σ Q := by
  unfold GX6_add_0
  refine V_rng (fun hR0 => ?_)
  have h := h hR0
  refine V_aload_n 0 rfl rfl dX6_add_0 ?_
  refine V_getI (f := 1) ci_X6 sh_67 rfl (by decide) dX6_add_1 lk_RX6_f15 ?_
  refine V_bipush (v := 12) (by decide) dX6_add_4 ?_
  refine V_icmp_ge (tgt := 26) dX6_add_6 (by decide) (show inI (σ 67 1) from (inI_sh hR0 sh_67 (by decide))) (by decide) (fun q1 => ?_) (fun q1 => ?_)
  · have h := h.1 q1
    refine V_aload_n 0 rfl rfl dX6_add_26 ?_
    refine V_getI (f := 1) ci_X6 sh_67 rfl (by decide) dX6_add_27 lk_RX6_f15 ?_
    exact V_iret rfl (fun _ q => by cases q) (vp_nar_int _) dX6_add_30 h
  · have h := h.2 q1
    refine V_aload_n 0 rfl rfl dX6_add_9 ?_
    refine V_getR (f := 0) ci_X6 sh_67 rfl (by decide) (c1 := 68) rfl dX6_add_10 lk_RX6_f11 ?_
    refine V_aload_n 0 rfl rfl dX6_add_13 ?_
    refine V_dup rfl dX6_add_14 ?_
    refine V_getI (f := 1) ci_X6 sh_67 rfl (by decide) dX6_add_15 lk_RX6_f15 ?_
    refine V_dup_x1 rfl rfl dX6_add_18 ?_
    refine V_iconst dX6_add_19 ?_
    refine V_iadd dX6_add_20 ?_
    obtain ⟨g2, h⟩ := h
    refine V_putI (f := 1) ci_X6 sh_67 rfl (by decide) rfl rfl g2 dX6_add_21 lk_RX6_f15 ?_
    refine V_iload_n 1 rfl rfl dX6_add_24 ?_
    obtain ⟨g3, h⟩ := h
    obtain ⟨g4, h⟩ := h
    refine V_iast sh_68 (by decide) g3 g4 dX6_add_25 ?_
    refine V_aload_n 0 rfl rfl dX6_add_26 ?_
    refine V_getI (f := 1) ci_X6 sh_67 rfl (by decide) dX6_add_27 lk_RX6_f15 ?_
    exact V_iret rfl (fun _ q => by cases q) (vp_nar_int _) dX6_add_30 h
theorem eX6_add {X : Cx} {v1 : Int} {σ : Sg} {Q : Int → Sg → Prop} (h : GX6_add_0 X v1 σ Q) : KX6_add X v1 σ Q := V_enter (by decide) (Nat.le_of_ble_eq_true rfl) rfl h
def GX6_pointingAt_0 (X : Cx) (v1 : Int) (σ : Sg) (Q : Int → Sg → Prop) : Prop := VV X mX6_pointingAt 0 [(0, .ref (cxA X 67)), (1, .int (gI v1))] [] σ Q
def GX6_pointingAt_38 (X : Cx) (v1 : Int) (v2 : Int) (v3 : Int) (σ : Sg) (Q : Int → Sg → Prop) : Prop := VV X mX6_pointingAt 38 [(0, .ref (cxA X 67)), (1, .int (gI v1)), (2, .int (gI v2)), (3, .int (gI v3))] [] σ Q
set_option maxHeartbeats 2000000 in
set_option maxRecDepth 20000 in
theorem rX6_pointingAt_0 {X : Cx} {v1 : Int} {σ : Sg} {Q : Int → Sg → Prop} (h : Rng σ → (inI v1) ∧ ((v1 < 1 → Q ((-1)) σ) ∧ (1 ≤ v1 → (inI v1) ∧ ((v1 < 12 → (0 ≤ v1 - 1 ∧ v1 - 1 < 12) ∧ (0 ≤ v1 ∧ v1 < 12) ∧ ((¬ (σ 68 v1.toNat) = (σ 68 ((v1 - 1).toNat)) → GX6_pointingAt_38 X v1 (σ 68 ((v1 - 1).toNat)) (v1 - 2) σ Q) ∧ ((σ 68 v1.toNat) = (σ 68 ((v1 - 1).toNat)) → Q 1 σ))) ∧ (12 ≤ v1 → Q ((-1)) σ))))) : GX6_pointingAt_0 X v1 σ Q := by
  unfold GX6_pointingAt_0
  refine V_rng (fun hR0 => ?_)
  have h := h hR0
  refine V_iload_n 1 rfl rfl dX6_pointingAt_0 ?_
  refine V_iconst dX6_pointingAt_1 ?_
  obtain ⟨g1, h⟩ := h
  refine V_icmp_lt (tgt := 11) dX6_pointingAt_2 (by decide) g1 (by decide) (fun q2 => ?_) (fun q2 => ?_)
  · have h := h.1 q2
    refine V_iconst dX6_pointingAt_11 ?_
    exact V_iret rfl (fun _ q => by cases q) (vp_nar_int _) dX6_pointingAt_12 h
  · have h := h.2 q2
    refine V_iload_n 1 rfl rfl dX6_pointingAt_5 ?_
    refine V_bipush (v := 12) (by decide) dX6_pointingAt_6 ?_
    obtain ⟨g3, h⟩ := h
    refine V_icmp_lt (tgt := 13) dX6_pointingAt_8 (by decide) g3 (by decide) (fun q4 => ?_) (fun q4 => ?_)
    · have h := h.1 q4
      refine V_aload_n 0 rfl rfl dX6_pointingAt_13 ?_
      refine V_getR (f := 0) ci_X6 sh_67 rfl (by decide) (c1 := 68) rfl dX6_pointingAt_14 lk_RX6_f11 ?_
      refine V_iload_n 1 rfl rfl dX6_pointingAt_17 ?_
      refine V_iconst dX6_pointingAt_18 ?_
      refine V_isub dX6_pointingAt_19 ?_
      obtain ⟨g5, h⟩ := h
      refine V_iald sh_68 (by decide) g5 dX6_pointingAt_20 ?_
      refine V_istore_n (L' := [(2, .int (gI (σ 68 ((v1 - 1).toNat)))), (0, .ref (cxA X 67)), (1, .int (gI v1))]) rfl (by decide) rfl dX6_pointingAt_21 ?_
      refine V_aload_n 1 rfl rfl dX6_pointingAt_22 ?_
      refine V_getR (f := 0) ci_X6 sh_67 rfl (by decide) (c1 := 68) rfl dX6_pointingAt_23 lk_RX6_f11 ?_
      refine V_iload_n 2 rfl rfl dX6_pointingAt_26 ?_
      obtain ⟨g6, h⟩ := h
      refine V_iald sh_68 (by decide) g6 dX6_pointingAt_27 ?_
      refine V_iload_n 0 rfl rfl dX6_pointingAt_28 ?_
      refine V_icmp_ne (tgt := 34) dX6_pointingAt_29 (by decide) (show inI (σ 68 v1.toNat) from (inI_sh hR0 sh_68 (by decide))) (show inI (σ 68 ((v1 - 1).toNat)) from (inI_sh hR0 sh_68 (by decide))) (fun q7 => ?_) (fun q7 => ?_)
      · have h := h.1 q7
        refine V_iload_n 2 rfl rfl dX6_pointingAt_34 ?_
        refine V_iconst dX6_pointingAt_35 ?_
        refine V_isub dX6_pointingAt_36 ?_
        refine V_istore_n (L' := [(3, .int (gI (v1 - 2))), (2, .int (gI (σ 68 ((v1 - 1).toNat)))), (0, .ref (cxA X 67)), (1, .int (gI v1))]) rfl (by decide) rfl dX6_pointingAt_37 ?_
        exact V_sub [2, 3, 1, 0] rfl h
      · have h := h.2 q7
        refine V_iconst dX6_pointingAt_32 ?_
        exact V_iret rfl (fun _ q => by cases q) (vp_nar_int _) dX6_pointingAt_33 h
    · have h := h.2 q4
      refine V_iconst dX6_pointingAt_11 ?_
      exact V_iret rfl (fun _ q => by cases q) (vp_nar_int _) dX6_pointingAt_12 h
set_option maxHeartbeats 2000000 in
set_option maxRecDepth 20000 in
theorem rX6_pointingAt_38 {X : Cx} {v1 : Int} {v2 : Int} {v3 : Int} {σ : Sg} {Q : Int → Sg → Prop} (h : Rng σ → (inI v3) ∧ ((v3 < 0 → Q ((-1)) σ) ∧ (0 ≤ v3 → (0 ≤ v3 ∧ v3 < 12) ∧ (inI v2) ∧ (((σ 68 v3.toNat) = v2 → GX6_pointingAt_38 X v1 v2 (v3 + (-1)) σ Q) ∧ (¬ (σ 68 v3.toNat) = v2 → (0 ≤ v3 ∧ v3 < 12) ∧ (0 ≤ v1 ∧ v1 < 12) ∧ ((¬ (σ 68 v3.toNat) = (σ 68 v1.toNat) → Q ((-1)) σ) ∧ ((σ 68 v3.toNat) = (σ 68 v1.toNat) → Q 2 σ))))))) : GX6_pointingAt_38 X v1 v2 v3 σ Q := by
  unfold GX6_pointingAt_38
  refine V_rng (fun hR0 => ?_)
  have h := h hR0
  refine V_iload_n 3 rfl rfl dX6_pointingAt_38 ?_
  obtain ⟨g1, h⟩ := h
  refine V_if_lt (tgt := 79) dX6_pointingAt_39 (by decide) g1 (fun q2 => ?_) (fun q2 => ?_)
  · have h := h.1 q2
    refine V_iconst dX6_pointingAt_79 ?_
    exact V_iret rfl (fun _ q => by cases q) (vp_nar_int _) dX6_pointingAt_80 h
  · have h := h.2 q2
    refine V_aload_n 0 rfl rfl dX6_pointingAt_42 ?_
    refine V_getR (f := 0) ci_X6 sh_67 rfl (by decide) (c1 := 68) rfl dX6_pointingAt_43 lk_RX6_f11 ?_
    refine V_iload_n 3 rfl rfl dX6_pointingAt_46 ?_
    obtain ⟨g3, h⟩ := h
    refine V_iald sh_68 (by decide) g3 dX6_pointingAt_47 ?_
    refine V_iload_n 2 rfl rfl dX6_pointingAt_48 ?_
    obtain ⟨g4, h⟩ := h
    refine V_icmp_eq (tgt := 73) dX6_pointingAt_49 (by decide) (show inI (σ 68 v3.toNat) from (inI_sh hR0 sh_68 (by decide))) g4 (fun q5 => ?_) (fun q5 => ?_)
    · have h := h.1 q5
      refine V_iinc (L' := [(3, .int (gI (v3 + (-1)))), (0, .ref (cxA X 67)), (1, .int (gI v1)), (2, .int (gI v2))]) 3 rfl (by decide) rfl dX6_pointingAt_73 ?_
      refine V_goto (tgt := 38) dX6_pointingAt_76 (by decide) ?_
      exact V_sub [1, 2, 3, 0] rfl h
    · have h := h.2 q5
      refine V_aload_n 0 rfl rfl dX6_pointingAt_52 ?_
      refine V_getR (f := 0) ci_X6 sh_67 rfl (by decide) (c1 := 68) rfl dX6_pointingAt_53 lk_RX6_f11 ?_
      refine V_iload_n 3 rfl rfl dX6_pointingAt_56 ?_
      obtain ⟨g6, h⟩ := h
      refine V_iald sh_68 (by decide) g6 dX6_pointingAt_57 ?_
      refine V_aload_n 0 rfl rfl dX6_pointingAt_58 ?_
      refine V_getR (f := 0) ci_X6 sh_67 rfl (by decide) (c1 := 68) rfl dX6_pointingAt_59 lk_RX6_f11 ?_
      refine V_iload_n 1 rfl rfl dX6_pointingAt_62 ?_
      obtain ⟨g7, h⟩ := h
      refine V_iald sh_68 (by decide) g7 dX6_pointingAt_63 ?_
      refine V_icmp_ne (tgt := 71) dX6_pointingAt_64 (by decide) (show inI (σ 68 v3.toNat) from (inI_sh hR0 sh_68 (by decide))) (show inI (σ 68 v1.toNat) from (inI_sh hR0 sh_68 (by decide))) (fun q8 => ?_) (fun q8 => ?_)
      · have h := h.1 q8
        refine V_iconst dX6_pointingAt_71 ?_
        exact V_iret rfl (fun _ q => by cases q) (vp_nar_int _) dX6_pointingAt_72 h
      · have h := h.2 q8
        refine V_iconst dX6_pointingAt_67 ?_
        refine V_goto (tgt := 72) dX6_pointingAt_68 (by decide) ?_
        exact V_iret rfl (fun _ q => by cases q) (vp_nar_int _) dX6_pointingAt_72 h
theorem eX6_pointingAt {X : Cx} {v1 : Int} {σ : Sg} {Q : Int → Sg → Prop} (h : GX6_pointingAt_0 X v1 σ Q) : KX6_pointingAt X v1 σ Q := V_enter (by decide) (Nat.le_of_ble_eq_true rfl) rfl h
def GX6_cost_0 (X : Cx) (σ : Sg) (Q : Int → Sg → Prop) : Prop := VV X mX6_cost 0 [(0, .ref (cxA X 67)), (1, .ref (cxA X 42))] [] σ Q
def GX6_cost_4 (X : Cx) (v2 : Int) (v3 : Int) (σ : Sg) (Q : Int → Sg → Prop) : Prop := VV X mX6_cost 4 [(0, .ref (cxA X 67)), (1, .ref (cxA X 42)), (2, .int (gI v2)), (3, .int (gI v3))] [] σ Q
def GX6_cost_56 (X : Cx) (v2 : Int) (v3 : Int) (v4 : Int) (v5 : Int) (s0 : Int) (σ : Sg) (Q : Int → Sg → Prop) : Prop := VV X mX6_cost 56 [(0, .ref (cxA X 67)), (1, .ref (cxA X 42)), (2, .int (gI v2)), (3, .int (gI v3)), (4, .int (gI v4)), (5, .int (gI v5))] [.int (gI s0)] σ Q
def GX6_cost_85 (X : Cx) (v2 : Int) (v3 : Int) (v4 : Int) (v5 : Int) (v6 : Int) (s0 : Int) (s1 : Int) (σ : Sg) (Q : Int → Sg → Prop) : Prop := VV X mX6_cost 85 [(0, .ref (cxA X 67)), (1, .ref (cxA X 42)), (2, .int (gI v2)), (3, .int (gI v3)), (4, .int (gI v4)), (5, .int (gI v5)), (6, .int (gI v6))] [.int (gI s0), .int (gI s1)] σ Q
set_option maxHeartbeats 2000000 in
set_option maxRecDepth 20000 in
theorem rX6_cost_0 {X : Cx} {σ : Sg} {Q : Int → Sg → Prop} (h : Rng σ → GX6_cost_4 X 0 0 σ Q) : GX6_cost_0 X σ Q := by
  unfold GX6_cost_0
  refine V_rng (fun hR0 => ?_)
  have h := h hR0
  refine V_iconst dX6_cost_0 ?_
  refine V_istore_n (L' := [(2, .int (gI 0)), (0, .ref (cxA X 67)), (1, .ref (cxA X 42))]) rfl (by decide) rfl dX6_cost_1 ?_
  refine V_iconst dX6_cost_2 ?_
  refine V_istore_n (L' := [(3, .int (gI 0)), (2, .int (gI 0)), (0, .ref (cxA X 67)), (1, .ref (cxA X 42))]) rfl (by decide) rfl dX6_cost_3 ?_
  exact V_sub [2, 3, 1, 0] rfl h
set_option maxHeartbeats 2000000 in
set_option maxRecDepth 20000 in
theorem rX6_cost_4 {X : Cx} {v2 : Int} {v3 : Int} {σ : Sg} {Q : Int → Sg → Prop} (h : Rng σ → (inI v3) ∧ (((σ 67 1) ≤ v3 → Q v2 σ) ∧ (v3 < (σ 67 1) → (inI v3) ∧ ((12 ≤ v3 → Q v2 σ) ∧ (v3 < 12 → (0 ≤ v3 ∧ v3 < 12) ∧ KX6_pointingAt X v3 σ (fun r6 σ7 => Rng σ7 → KX9_isReached X 42 (zshl 1 (σ 68 v3.toNat)) σ7 (fun r9 σ10 => Rng σ10 → (inI r9) ∧ ((r9 = 0 → GX6_cost_56 X v2 v3 (zshl 1 (σ 68 v3.toNat)) r6 r6 σ10 Q) ∧ (¬ r9 = 0 → (0 ≤ zshl 1 (σ 68 v3.toNat) ∧ zshl 1 (σ 68 v3.toNat) < 256) ∧ GX6_cost_56 X v2 v3 (zshl 1 (σ 68 v3.toNat)) r6 (σ10 43 ((zshl 1 (σ 68 v3.toNat)).toNat)) σ10 Q))))))))) : GX6_cost_4 X v2 v3 σ Q := by
  unfold GX6_cost_4
  refine V_rng (fun hR0 => ?_)
  have h := h hR0
  refine V_iload_n 3 rfl rfl dX6_cost_4 ?_
  refine V_aload_n 0 rfl rfl dX6_cost_5 ?_
  refine V_getI (f := 1) ci_X6 sh_67 rfl (by decide) dX6_cost_6 lk_RX6_f15 ?_
  obtain ⟨g1, h⟩ := h
  refine V_icmp_ge (tgt := 93) dX6_cost_9 (by decide) g1 (show inI (σ 67 1) from (inI_sh hR0 sh_67 (by decide))) (fun q2 => ?_) (fun q2 => ?_)
  · have h := h.1 q2
    refine V_iload_n 2 rfl rfl dX6_cost_93 ?_
    exact V_iret rfl (fun _ q => by cases q) (vp_nar_int _) dX6_cost_94 h
  · have h := h.2 q2
    refine V_iload_n 3 rfl rfl dX6_cost_12 ?_
    refine V_bipush (v := 12) (by decide) dX6_cost_13 ?_
    obtain ⟨g3, h⟩ := h
    refine V_icmp_ge (tgt := 93) dX6_cost_15 (by decide) g3 (by decide) (fun q4 => ?_) (fun q4 => ?_)
    · have h := h.1 q4
      refine V_iload_n 2 rfl rfl dX6_cost_93 ?_
      exact V_iret rfl (fun _ q => by cases q) (vp_nar_int _) dX6_cost_94 h
    · have h := h.2 q4
      refine V_iconst dX6_cost_18 ?_
      refine V_aload_n 0 rfl rfl dX6_cost_19 ?_
      refine V_getR (f := 0) ci_X6 sh_67 rfl (by decide) (c1 := 68) rfl dX6_cost_20 lk_RX6_f11 ?_
      refine V_iload_n 3 rfl rfl dX6_cost_23 ?_
      obtain ⟨g5, h⟩ := h
      refine V_iald sh_68 (by decide) g5 dX6_cost_24 ?_
      refine V_ishl dX6_cost_25 ?_
      refine V_istore (L' := [(4, .int (gI (zshl 1 (σ 68 v3.toNat)))), (0, .ref (cxA X 67)), (1, .ref (cxA X 42)), (2, .int (gI v2)), (3, .int (gI v3))]) (by decide) rfl dX6_cost_26 ?_
      refine V_aload_n 1 rfl rfl dX6_cost_28 ?_
      refine V_iload_n 4 rfl rfl dX6_cost_29 ?_
      refine V_cV (M' := mX6_pointingAt) (As := [.int (gI v3)]) (fun r => [.int (gI r)]) ok_X6_pointingAt ok2_X6_pointingAt sh_67 rfl (by decide) rfl rfl (Nat.le_of_ble_eq_true rfl) dX6_cost_30 lk_RX6_m19 (by decide) (fun _ => rfl) h (fun r6 σ7 h => ?_)
      refine V_rng (fun hR8 => ?_)
      have h := h hR8
      refine V_istore (L' := [(5, .int (gI r6)), (4, .int (gI (zshl 1 (σ 68 v3.toNat)))), (0, .ref (cxA X 67)), (1, .ref (cxA X 42)), (2, .int (gI v2)), (3, .int (gI v3))]) (by decide) rfl dX6_cost_33 ?_
      refine V_aload_n 3 rfl rfl dX6_cost_35 ?_
      refine V_iload 1 rfl dX6_cost_36 ?_
      refine V_cV (M' := mX9_isReached) (As := [.int (gI (zshl 1 (σ 68 v3.toNat)))]) (fun r => [.int (gI r)]) ok_X9_isReached ok2_X9_isReached sh_42 rfl (by decide) rfl rfl (Nat.le_of_ble_eq_true rfl) dX6_cost_38 lk_RX6_m23 (by decide) (fun _ => rfl) h (fun r9 σ10 h => ?_)
      refine V_rng (fun hR11 => ?_)
      have h := h hR11
      obtain ⟨g12, h⟩ := h
      refine V_if_eq (tgt := 54) dX6_cost_41 (by decide) g12 (fun q13 => ?_) (fun q13 => ?_)
      · have h := h.1 q13
        refine V_iload 0 rfl dX6_cost_54 ?_
        exact V_sub [2, 3, 4, 5, 1, 0] rfl h
      · have h := h.2 q13
        refine V_aload_n 3 rfl rfl dX6_cost_44 ?_
        refine V_getR (f := 0) ci_X9 sh_42 rfl (by decide) (c1 := 43) rfl dX6_cost_45 lk_RX6_f29 ?_
        refine V_iload 1 rfl dX6_cost_48 ?_
        obtain ⟨g14, h⟩ := h
        refine V_iald sh_43 (by decide) g14 dX6_cost_50 ?_
        refine V_goto (tgt := 56) dX6_cost_51 (by decide) ?_
        exact V_sub [2, 3, 4, 5, 1, 0] rfl h
set_option maxHeartbeats 2000000 in
set_option maxRecDepth 20000 in
theorem rX6_cost_56 {X : Cx} {v2 : Int} {v3 : Int} {v4 : Int} {v5 : Int} {s0 : Int} {σ : Sg} {Q : Int → Sg → Prop} (h : Rng σ → (inI s0) ∧ ((¬ s0 = ((-1)) → (inI v5) ∧ ((¬ v5 = ((-1)) → (inI s0) ∧ (inI v5) ∧ GX6_cost_85 X v2 v3 v4 v5 s0 ((if v5 < s0 then v5 else s0)) v2 σ Q) ∧ (v5 = ((-1)) → GX6_cost_85 X v2 v3 v4 v5 s0 s0 v2 σ Q))) ∧ (s0 = ((-1)) → Q ((-1)) σ))) : GX6_cost_56 X v2 v3 v4 v5 s0 σ Q := by
  unfold GX6_cost_56
  refine V_rng (fun hR0 => ?_)
  have h := h hR0
  refine V_istore (L' := [(6, .int (gI s0)), (0, .ref (cxA X 67)), (1, .ref (cxA X 42)), (2, .int (gI v2)), (3, .int (gI v3)), (4, .int (gI v4)), (5, .int (gI v5))]) (by decide) rfl dX6_cost_56 ?_
  refine V_iload 0 rfl dX6_cost_58 ?_
  refine V_iconst dX6_cost_60 ?_
  obtain ⟨g1, h⟩ := h
  refine V_icmp_ne (tgt := 66) dX6_cost_61 (by decide) g1 (by decide) (fun q2 => ?_) (fun q2 => ?_)
  · have h := h.1 q2
    refine V_iload_n 3 rfl rfl dX6_cost_66 ?_
    refine V_iload 6 rfl dX6_cost_67 ?_
    refine V_iconst dX6_cost_69 ?_
    obtain ⟨g3, h⟩ := h
    refine V_icmp_ne (tgt := 78) dX6_cost_70 (by decide) g3 (by decide) (fun q4 => ?_) (fun q4 => ?_)
    · have h := h.1 q4
      refine V_iload 0 rfl dX6_cost_78 ?_
      refine V_iload 6 rfl dX6_cost_80 ?_
      obtain ⟨g5, h⟩ := h
      obtain ⟨g6, h⟩ := h
      refine V_mmin g5 g6 ok_mmin dX6_cost_82 lk_RX6_m32 (by decide) (Nat.le_of_ble_eq_true rfl) ?_
      exact V_sub [1, 2, 3, 4, 5, 6, 0] rfl h
    · have h := h.2 q4
      refine V_iload 0 rfl dX6_cost_73 ?_
      refine V_goto (tgt := 85) dX6_cost_75 (by decide) ?_
      exact V_sub [1, 2, 3, 4, 5, 6, 0] rfl h
  · have h := h.2 q2
    refine V_iconst dX6_cost_64 ?_
    exact V_iret rfl (fun _ q => by cases q) (vp_nar_int _) dX6_cost_65 h
set_option maxHeartbeats 2000000 in
set_option maxRecDepth 20000 in
theorem rX6_cost_85 {X : Cx} {v2 : Int} {v3 : Int} {v4 : Int} {v5 : Int} {v6 : Int} {s0 : Int} {s1 : Int} {σ : Sg} {Q : Int → Sg → Prop} (h : Rng σ → GX6_cost_4 X (s1 + s0) (v3 + 1) σ Q) : GX6_cost_85 X v2 v3 v4 v5 v6 s0 s1 σ Q := by
  unfold GX6_cost_85
  refine V_rng (fun hR0 => ?_)
  have h := h hR0
  refine V_iadd dX6_cost_85 ?_
  refine V_istore_n (L' := [(2, .int (gI (s1 + s0))), (0, .ref (cxA X 67)), (1, .ref (cxA X 42)), (3, .int (gI v3)), (4, .int (gI v4)), (5, .int (gI v5)), (6, .int (gI v6))]) rfl (by decide) rfl dX6_cost_86 ?_
  refine V_iinc (L' := [(3, .int (gI (v3 + 1))), (2, .int (gI (s1 + s0))), (0, .ref (cxA X 67)), (1, .ref (cxA X 42)), (4, .int (gI v4)), (5, .int (gI v5)), (6, .int (gI v6))]) 3 rfl (by decide) rfl dX6_cost_87 ?_
  refine V_goto (tgt := 4) dX6_cost_90 (by decide) ?_
  exact V_sub [2, 3, 1, 0] rfl h
theorem eX6_cost {X : Cx} {σ : Sg} {Q : Int → Sg → Prop} (h : GX6_cost_0 X σ Q) : KX6_cost X σ Q := V_enter (by decide) (Nat.le_of_ble_eq_true rfl) rfl h
def GX7_hasRoomFor_0 (X : Cx) (v1 : Int) (σ : Sg) (Q : Int → Sg → Prop) : Prop := VV X mX7_hasRoomFor 0 [(0, .ref (cxA X 12)), (1, .int (gI v1))] [] σ Q
set_option maxHeartbeats 2000000 in
set_option maxRecDepth 20000 in
theorem rX7_hasRoomFor_0 {X : Cx} {v1 : Int} {σ : Sg} {Q : Int → Sg → Prop} (h : Rng σ → (inI ((σ 12 2) + v1)) ∧ ((160 < ((σ 12 2) + v1) → Q 0 σ) ∧ (((σ 12 2) + v1) ≤ 160 → Q 1 σ))) : GX7_hasRoomFor_0 X v1 σ Q := by
  unfold GX7_hasRoomFor_0
  refine V_rng (fun hR0 => ?_)
  have h := h hR0
  refine V_aload_n 0 rfl rfl dX7_hasRoomFor_0 ?_
  refine V_getI (f := 2) ci_X7 sh_12 rfl (by decide) dX7_hasRoomFor_1 lk_RX7_f22 ?_
  refine V_iload_n 1 rfl rfl dX7_hasRoomFor_4 ?_
  refine V_iadd dX7_hasRoomFor_5 ?_
  refine V_sipush (v := 160) (by decide) dX7_hasRoomFor_6 ?_
  obtain ⟨g1, h⟩ := h
  refine V_icmp_gt (tgt := 16) dX7_hasRoomFor_9 (by decide) g1 (by decide) (fun q2 => ?_) (fun q2 => ?_)
  · have h := h.1 q2
    refine V_iconst dX7_hasRoomFor_16 ?_
    exact V_iret rfl (fun _ q => by cases q) (by decide) dX7_hasRoomFor_17 h
  · have h := h.2 q2
    refine V_iconst dX7_hasRoomFor_12 ?_
    refine V_goto (tgt := 17) dX7_hasRoomFor_13 (by decide) ?_
    exact V_iret rfl (fun _ q => by cases q) (by decide) dX7_hasRoomFor_17 h
theorem eX7_hasRoomFor {X : Cx} {v1 : Int} {σ : Sg} {Q : Int → Sg → Prop} (h : GX7_hasRoomFor_0 X v1 σ Q) : KX7_hasRoomFor X v1 σ Q := V_enter (by decide) (Nat.le_of_ble_eq_true rfl) rfl h
def GX7_append_0 (X : Cx) (w1 : Int) (v3 : Int) (σ : Sg) (Q : Int → Sg → Prop) : Prop := VV X mX7_append 0 [(0, .ref (cxA X 12)), (1, .long (gJ w1)), (3, .int (gI v3))] [] σ Q
def GX7_append_3 (X : Cx) (w1 : Int) (v3 : Int) (v4 : Int) (σ : Sg) (Q : Int → Sg → Prop) : Prop := VV X mX7_append 3 [(0, .ref (cxA X 12)), (1, .long (gJ w1)), (3, .int (gI v3)), (4, .int (gI v4))] [] σ Q
set_option maxHeartbeats 2000000 in
set_option maxRecDepth 20000 in
theorem rX7_append_0 {X : Cx} {w1 : Int} {v3 : Int} {σ : Sg} {Q : Int → Sg → Prop} (h : Rng σ → GX7_append_3 X w1 v3 0 σ Q) : GX7_append_0 X w1 v3 σ Q := by
  unfold GX7_append_0
  refine V_rng (fun hR0 => ?_)
  have h := h hR0
  refine V_iconst dX7_append_0 ?_
  refine V_istore (L' := [(4, .int (gI 0)), (0, .ref (cxA X 12)), (1, .long (gJ w1)), (3, .int (gI v3))]) (by decide) rfl dX7_append_1 ?_
  exact V_sub [1, 2, 3, 0] rfl h
set_option maxHeartbeats 2000000 in
set_option maxRecDepth 20000 in
theorem rX7_append_3 {X : Cx} {w1 : Int} {v3 : Int} {v4 : Int} {σ : Sg} {Q : Int → Sg → Prop} (h : Rng σ → (inI v4) ∧ (inI v3) ∧ ((v3 ≤ v4 → Q (σ 12 2) σ) ∧ (v4 < v3 → ((160 ≤ (σ 12 2) → Q (σ 12 2) σ) ∧ ((σ 12 2) < 160 → (inI ((σ 12 2) + 1)) ∧ (0 ≤ jtoi (jand (jshr w1 (8 * v4)) 255) ∧ jtoi (jand (jshr w1 (8 * v4)) 255) < 256) ∧ (0 ≤ σ 12 2 ∧ σ 12 2 < 160) ∧ (0 ≤ jtoi (jand (jshr w1 (8 * v4)) 255) ∧ jtoi (jand (jshr w1 (8 * v4)) 255) < 256) ∧ GX7_append_3 X w1 v3 (v4 + 1) (up2 (up2 σ 12 2 ((σ 12 2) + 1)) 13 ((σ 12 2).toNat) (jtoi (jand (jshr w1 (8 * v4)) 255))) Q))))) : GX7_append_3 X w1 v3 v4 σ Q := by
  unfold GX7_append_3
  refine V_rng (fun hR0 => ?_)
  have h := h hR0
  refine V_iload 3 rfl dX7_append_3 ?_
  refine V_iload_n 2 rfl rfl dX7_append_5 ?_
  obtain ⟨g1, h⟩ := h
  obtain ⟨g2, h⟩ := h
  refine V_icmp_ge (tgt := 54) dX7_append_6 (by decide) g1 g2 (fun q3 => ?_) (fun q3 => ?_)
  · have h := h.1 q3
    refine V_aload_n 0 rfl rfl dX7_append_54 ?_
    refine V_getI (f := 2) ci_X7 sh_12 rfl (by decide) dX7_append_55 lk_RX7_f22 ?_
    exact V_iret rfl (fun _ q => by cases q) (vp_nar_int _) dX7_append_58 h
  · have h := h.2 q3
    refine V_aload_n 0 rfl rfl dX7_append_9 ?_
    refine V_getI (f := 2) ci_X7 sh_12 rfl (by decide) dX7_append_10 lk_RX7_f22 ?_
    refine V_sipush (v := 160) (by decide) dX7_append_13 ?_
    refine V_icmp_ge (tgt := 54) dX7_append_16 (by decide) (show inI (σ 12 2) from (inI_sh hR0 sh_12 (by decide))) (by decide) (fun q4 => ?_) (fun q4 => ?_)
    · have h := h.1 q4
      refine V_aload_n 0 rfl rfl dX7_append_54 ?_
      refine V_getI (f := 2) ci_X7 sh_12 rfl (by decide) dX7_append_55 lk_RX7_f22 ?_
      exact V_iret rfl (fun _ q => by cases q) (vp_nar_int _) dX7_append_58 h
    · have h := h.2 q4
      refine V_aload_n 0 rfl rfl dX7_append_19 ?_
      refine V_getR (f := 0) ci_X7 sh_12 rfl (by decide) (c1 := 13) rfl dX7_append_20 lk_RX7_f11 ?_
      refine V_aload_n 0 rfl rfl dX7_append_23 ?_
      refine V_dup rfl dX7_append_24 ?_
      refine V_getI (f := 2) ci_X7 sh_12 rfl (by decide) dX7_append_25 lk_RX7_f22 ?_
      refine V_dup_x1 rfl rfl dX7_append_28 ?_
      refine V_iconst dX7_append_29 ?_
      refine V_iadd dX7_append_30 ?_
      obtain ⟨g5, h⟩ := h
      refine V_putI (f := 2) ci_X7 sh_12 rfl (by decide) rfl rfl g5 dX7_append_31 lk_RX7_f22 ?_
      refine V_lload_n 1 rfl rfl dX7_append_34 ?_
      refine V_bipush (v := 8) (by decide) dX7_append_35 ?_
      refine V_iload 3 rfl dX7_append_37 ?_
      refine V_imul dX7_append_39 ?_
      refine V_lshr dX7_append_40 ?_
      refine V_ldc2 (x := (255)) dX7_append_41 lk_RX7_l26 (by decide) ?_
      refine V_land dX7_append_44 ?_
      refine V_l2i dX7_append_45 ?_
      obtain ⟨g6, h⟩ := h
      refine V_i2c g6 dX7_append_46 ?_
      obtain ⟨g7, h⟩ := h
      obtain ⟨g8, h⟩ := h
      refine V_cast sh_13 (by decide) g7 g8 dX7_append_47 ?_
      refine V_iinc (L' := [(4, .int (gI (v4 + 1))), (0, .ref (cxA X 12)), (1, .long (gJ w1)), (3, .int (gI v3))]) 3 rfl (by decide) rfl dX7_append_48 ?_
      refine V_goto (tgt := 3) dX7_append_51 (by decide) ?_
      exact V_sub [1, 2, 3, 0] rfl h
theorem eX7_append {X : Cx} {w1 : Int} {v3 : Int} {σ : Sg} {Q : Int → Sg → Prop} (h : GX7_append_0 X w1 v3 σ Q) : KX7_append X w1 v3 σ Q := V_enter (by decide) (Nat.le_of_ble_eq_true rfl) rfl h
def GX7_clear_0 (X : Cx) (σ : Sg) (Q : Int → Sg → Prop) : Prop := VV X mX7_clear 0 [(0, .ref (cxA X 12))] [] σ Q
set_option maxHeartbeats 2000000 in
set_option maxRecDepth 20000 in
theorem rX7_clear_0 {X : Cx} {σ : Sg} {Q : Int → Sg → Prop} (h : Rng σ → Q (σ 12 2) (up2 σ 12 2 0)) : GX7_clear_0 X σ Q := by
  unfold GX7_clear_0
  refine V_rng (fun hR0 => ?_)
  have h := h hR0
  refine V_aload_n 0 rfl rfl dX7_clear_0 ?_
  refine V_getI (f := 2) ci_X7 sh_12 rfl (by decide) dX7_clear_1 lk_RX7_f22 ?_
  refine V_istore_n (L' := [(1, .int (gI (σ 12 2))), (0, .ref (cxA X 12))]) rfl (by decide) rfl dX7_clear_4 ?_
  refine V_aload_n 1 rfl rfl dX7_clear_5 ?_
  refine V_iconst dX7_clear_6 ?_
  refine V_putI (f := 2) ci_X7 sh_12 rfl (by decide) rfl rfl (by decide) dX7_clear_7 lk_RX7_f22 ?_
  refine V_iload_n 0 rfl rfl dX7_clear_10 ?_
  exact V_iret rfl (fun _ q => by cases q) (vp_nar_int _) dX7_clear_11 h
theorem eX7_clear {X : Cx} {σ : Sg} {Q : Int → Sg → Prop} (h : GX7_clear_0 X σ Q) : KX7_clear X σ Q := V_enter (by decide) (Nat.le_of_ble_eq_true rfl) rfl h
def GX7_sortAt_0 (X : Cx) (v1 : Int) (σ : Sg) (Q : Int → Sg → Prop) : Prop := VV X mX7_sortAt 0 [(0, .ref (cxA X 12)), (1, .int (gI v1))] [] σ Q
def GX7_sortAt_21 (X : Cx) (v1 : Int) (s0 : Int) (σ : Sg) (Q : Int → Sg → Prop) : Prop := VV X mX7_sortAt 21 [(0, .ref (cxA X 12)), (1, .int (gI v1))] [.int (gI s0)] σ Q
def GX7_sortAt_36 (X : Cx) (v1 : Int) (v2 : Int) (σ : Sg) (Q : Int → Sg → Prop) : Prop := VV X mX7_sortAt 36 [(0, .ref (cxA X 12)), (1, .int (gI v1)), (2, .int (gI v2))] [] σ Q
set_option maxHeartbeats 2000000 in
set_option maxRecDepth 20000 in
theorem rX7_sortAt_0 {X : Cx} {v1 : Int} {σ : Sg} {Q : Int → Sg → Prop} (h : Rng σ → KX11_isWithin X v1 160 σ (fun r1 σ2 => Rng σ2 → (inI r1) ∧ ((r1 = 0 → GX7_sortAt_21 X v1 32 σ2 Q) ∧ (¬ r1 = 0 → (0 ≤ v1 ∧ v1 < 160) ∧ GX7_sortAt_21 X v1 (σ2 13 v1.toNat) σ2 Q)))) : GX7_sortAt_0 X v1 σ Q := by
  unfold GX7_sortAt_0
  refine V_rng (fun hR0 => ?_)
  have h := h hR0
  refine V_iload_n 1 rfl rfl dX7_sortAt_0 ?_
  refine V_sipush (v := 160) (by decide) dX7_sortAt_1 ?_
  refine V_cN (M' := mX11_isWithin) (As := [.int (gI v1), .int (gI 160)]) (fun r => [.int (gI r)]) ok_X11_isWithin ok2_X11_isWithin rfl rfl (Nat.le_of_ble_eq_true rfl) dX7_sortAt_4 lk_RX7_m49 (by decide) (fun _ => rfl) h (fun r1 σ2 h => ?_)
  refine V_rng (fun hR3 => ?_)
  have h := h hR3
  obtain ⟨g4, h⟩ := h
  refine V_if_eq (tgt := 19) dX7_sortAt_7 (by decide) g4 (fun q5 => ?_) (fun q5 => ?_)
  · have h := h.1 q5
    refine V_bipush (v := 32) (by decide) dX7_sortAt_19 ?_
    exact h
  · have h := h.2 q5
    refine V_aload_n 0 rfl rfl dX7_sortAt_10 ?_
    refine V_getR (f := 0) ci_X7 sh_12 rfl (by decide) (c1 := 13) rfl dX7_sortAt_11 lk_RX7_f11 ?_
    refine V_iload_n 1 rfl rfl dX7_sortAt_14 ?_
    obtain ⟨g6, h⟩ := h
    refine V_cald sh_13 (by decide) g6 dX7_sortAt_15 ?_
    refine V_goto (tgt := 21) dX7_sortAt_16 (by decide) ?_
    exact h
set_option maxHeartbeats 2000000 in
set_option maxRecDepth 20000 in
theorem rX7_sortAt_21 {X : Cx} {v1 : Int} {s0 : Int} {σ : Sg} {Q : Int → Sg → Prop} (h : Rng σ → (inI s0) ∧ ((s0 < 97 → GX7_sortAt_36 X v1 s0 σ Q) ∧ (97 ≤ s0 → (inI s0) ∧ ((122 < s0 → GX7_sortAt_36 X v1 s0 σ Q) ∧ (s0 ≤ 122 → Q 0 σ))))) : GX7_sortAt_21 X v1 s0 σ Q := by
  unfold GX7_sortAt_21
  refine V_rng (fun hR0 => ?_)
  have h := h hR0
  refine V_istore_n (L' := [(2, .int (gI s0)), (0, .ref (cxA X 12)), (1, .int (gI v1))]) rfl (by decide) rfl dX7_sortAt_21 ?_
  refine V_iload_n 0 rfl rfl dX7_sortAt_22 ?_
  refine V_bipush (v := 97) (by decide) dX7_sortAt_23 ?_
  obtain ⟨g1, h⟩ := h
  refine V_icmp_lt (tgt := 36) dX7_sortAt_25 (by decide) g1 (by decide) (fun q2 => ?_) (fun q2 => ?_)
  · have h := h.1 q2
    exact V_sub [1, 2, 0] rfl h
  · have h := h.2 q2
    refine V_iload_n 0 rfl rfl dX7_sortAt_28 ?_
    refine V_bipush (v := 122) (by decide) dX7_sortAt_29 ?_
    obtain ⟨g3, h⟩ := h
    refine V_icmp_gt (tgt := 36) dX7_sortAt_31 (by decide) g3 (by decide) (fun q4 => ?_) (fun q4 => ?_)
    · have h := h.1 q4
      exact V_sub [1, 2, 0] rfl h
    · have h := h.2 q4
      refine V_iconst dX7_sortAt_34 ?_
      exact V_iret rfl (fun _ q => by cases q) (vp_nar_int _) dX7_sortAt_35 h
set_option maxHeartbeats 2000000 in
set_option maxRecDepth 20000 in
theorem rX7_sortAt_36 {X : Cx} {v1 : Int} {v2 : Int} {σ : Sg} {Q : Int → Sg → Prop} (h : Rng σ → (inI v2) ∧ ((v2 < 48 → Q 2 σ) ∧ (48 ≤ v2 → (inI v2) ∧ ((57 < v2 → Q 2 σ) ∧ (v2 ≤ 57 → Q 1 σ))))) : GX7_sortAt_36 X v1 v2 σ Q := by
  unfold GX7_sortAt_36
  refine V_rng (fun hR0 => ?_)
  have h := h hR0
  refine V_iload_n 2 rfl rfl dX7_sortAt_36 ?_
  refine V_bipush (v := 48) (by decide) dX7_sortAt_37 ?_
  obtain ⟨g1, h⟩ := h
  refine V_icmp_lt (tgt := 52) dX7_sortAt_39 (by decide) g1 (by decide) (fun q2 => ?_) (fun q2 => ?_)
  · have h := h.1 q2
    refine V_iconst dX7_sortAt_52 ?_
    exact V_iret rfl (fun _ q => by cases q) (vp_nar_int _) dX7_sortAt_53 h
  · have h := h.2 q2
    refine V_iload_n 2 rfl rfl dX7_sortAt_42 ?_
    refine V_bipush (v := 57) (by decide) dX7_sortAt_43 ?_
    obtain ⟨g3, h⟩ := h
    refine V_icmp_gt (tgt := 52) dX7_sortAt_45 (by decide) g3 (by decide) (fun q4 => ?_) (fun q4 => ?_)
    · have h := h.1 q4
      refine V_iconst dX7_sortAt_52 ?_
      exact V_iret rfl (fun _ q => by cases q) (vp_nar_int _) dX7_sortAt_53 h
    · have h := h.2 q4
      refine V_iconst dX7_sortAt_48 ?_
      refine V_goto (tgt := 53) dX7_sortAt_49 (by decide) ?_
      exact V_iret rfl (fun _ q => by cases q) (vp_nar_int _) dX7_sortAt_53 h
theorem eX7_sortAt {X : Cx} {v1 : Int} {σ : Sg} {Q : Int → Sg → Prop} (h : GX7_sortAt_0 X v1 σ Q) : KX7_sortAt X v1 σ Q := V_enter (by decide) (Nat.le_of_ble_eq_true rfl) rfl h
def GX7_endOfToken_0 (X : Cx) (v1 : Int) (σ : Sg) (Q : Int → Sg → Prop) : Prop := VV X mX7_endOfToken 0 [(0, .ref (cxA X 12)), (1, .int (gI v1))] [] σ Q
def GX7_endOfToken_15 (X : Cx) (v1 : Int) (v2 : Int) (v3 : Int) (σ : Sg) (Q : Int → Sg → Prop) : Prop := VV X mX7_endOfToken 15 [(0, .ref (cxA X 12)), (1, .int (gI v1)), (2, .int (gI v2)), (3, .int (gI v3))] [] σ Q
set_option maxHeartbeats 2000000 in
set_option maxRecDepth 20000 in
theorem rX7_endOfToken_0 {X : Cx} {v1 : Int} {σ : Sg} {Q : Int → Sg → Prop} (h : Rng σ → KX7_sortAt X v1 σ (fun r1 σ2 => Rng σ2 → (inI r1) ∧ ((r1 = 2 → Q (v1 + 1) σ2) ∧ (¬ r1 = 2 → GX7_endOfToken_15 X v1 r1 (v1 + 1) σ2 Q)))) : GX7_endOfToken_0 X v1 σ Q := by
  unfold GX7_endOfToken_0
  refine V_rng (fun hR0 => ?_)
  have h := h hR0
  refine V_aload_n 0 rfl rfl dX7_endOfToken_0 ?_
  refine V_iload_n 1 rfl rfl dX7_endOfToken_1 ?_
  refine V_cV (M' := mX7_sortAt) (As := [.int (gI v1)]) (fun r => [.int (gI r)]) ok_X7_sortAt ok2_X7_sortAt sh_12 rfl (by decide) rfl rfl (Nat.le_of_ble_eq_true rfl) dX7_endOfToken_2 lk_RX7_m46 (by decide) (fun _ => rfl) h (fun r1 σ2 h => ?_)
  refine V_rng (fun hR3 => ?_)
  have h := h hR3
  refine V_istore_n (L' := [(2, .int (gI r1)), (0, .ref (cxA X 12)), (1, .int (gI v1))]) rfl (by decide) rfl dX7_endOfToken_5 ?_
  refine V_iload_n 2 rfl rfl dX7_endOfToken_6 ?_
  refine V_iconst dX7_endOfToken_7 ?_
  refine V_iadd dX7_endOfToken_8 ?_
  refine V_istore_n (L' := [(3, .int (gI (v1 + 1))), (2, .int (gI r1)), (0, .ref (cxA X 12)), (1, .int (gI v1))]) rfl (by decide) rfl dX7_endOfToken_9 ?_
  refine V_iload_n 1 rfl rfl dX7_endOfToken_10 ?_
  refine V_iconst dX7_endOfToken_11 ?_
  obtain ⟨g4, h⟩ := h
  refine V_icmp_eq (tgt := 45) dX7_endOfToken_12 (by decide) g4 (by decide) (fun q5 => ?_) (fun q5 => ?_)
  · have h := h.1 q5
    refine V_iload_n 0 rfl rfl dX7_endOfToken_45 ?_
    exact V_iret rfl (fun _ q => by cases q) (vp_nar_int _) dX7_endOfToken_46 h
  · have h := h.2 q5
    exact V_sub [2, 3, 1, 0] rfl h
set_option maxHeartbeats 2000000 in
set_option maxRecDepth 20000 in
theorem rX7_endOfToken_15 {X : Cx} {v1 : Int} {v2 : Int} {v3 : Int} {σ : Sg} {Q : Int → Sg → Prop} (h : Rng σ → (inI v3) ∧ (((σ 12 2) ≤ v3 → Q v3 σ) ∧ (v3 < (σ 12 2) → (inI v3) ∧ ((160 ≤ v3 → Q v3 σ) ∧ (v3 < 160 → KX7_sortAt X v3 σ (fun r5 σ6 => Rng σ6 → (inI r5) ∧ (inI v2) ∧ ((¬ r5 = v2 → Q v3 σ6) ∧ (r5 = v2 → GX7_endOfToken_15 X v1 v2 (v3 + 1) σ6 Q)))))))) : GX7_endOfToken_15 X v1 v2 v3 σ Q := by
  unfold GX7_endOfToken_15
  refine V_rng (fun hR0 => ?_)
  have h := h hR0
  refine V_iload_n 3 rfl rfl dX7_endOfToken_15 ?_
  refine V_aload_n 0 rfl rfl dX7_endOfToken_16 ?_
  refine V_getI (f := 2) ci_X7 sh_12 rfl (by decide) dX7_endOfToken_17 lk_RX7_f22 ?_
  obtain ⟨g1, h⟩ := h
  refine V_icmp_ge (tgt := 45) dX7_endOfToken_20 (by decide) g1 (show inI (σ 12 2) from (inI_sh hR0 sh_12 (by decide))) (fun q2 => ?_) (fun q2 => ?_)
  · have h := h.1 q2
    refine V_iload_n 3 rfl rfl dX7_endOfToken_45 ?_
    exact V_iret rfl (fun _ q => by cases q) (vp_nar_int _) dX7_endOfToken_46 h
  · have h := h.2 q2
    refine V_iload_n 3 rfl rfl dX7_endOfToken_23 ?_
    refine V_sipush (v := 160) (by decide) dX7_endOfToken_24 ?_
    obtain ⟨g3, h⟩ := h
    refine V_icmp_ge (tgt := 45) dX7_endOfToken_27 (by decide) g3 (by decide) (fun q4 => ?_) (fun q4 => ?_)
    · have h := h.1 q4
      refine V_iload_n 3 rfl rfl dX7_endOfToken_45 ?_
      exact V_iret rfl (fun _ q => by cases q) (vp_nar_int _) dX7_endOfToken_46 h
    · have h := h.2 q4
      refine V_aload_n 0 rfl rfl dX7_endOfToken_30 ?_
      refine V_iload_n 3 rfl rfl dX7_endOfToken_31 ?_
      refine V_cV (M' := mX7_sortAt) (As := [.int (gI v3)]) (fun r => [.int (gI r)]) ok_X7_sortAt ok2_X7_sortAt sh_12 rfl (by decide) rfl rfl (Nat.le_of_ble_eq_true rfl) dX7_endOfToken_32 lk_RX7_m46 (by decide) (fun _ => rfl) h (fun r5 σ6 h => ?_)
      refine V_rng (fun hR7 => ?_)
      have h := h hR7
      refine V_iload_n 2 rfl rfl dX7_endOfToken_35 ?_
      obtain ⟨g8, h⟩ := h
      obtain ⟨g9, h⟩ := h
      refine V_icmp_ne (tgt := 45) dX7_endOfToken_36 (by decide) g8 g9 (fun q10 => ?_) (fun q10 => ?_)
      · have h := h.1 q10
        refine V_iload_n 3 rfl rfl dX7_endOfToken_45 ?_
        exact V_iret rfl (fun _ q => by cases q) (vp_nar_int _) dX7_endOfToken_46 h
      · have h := h.2 q10
        refine V_iinc (L' := [(3, .int (gI (v3 + 1))), (0, .ref (cxA X 12)), (1, .int (gI v1)), (2, .int (gI v2))]) 3 rfl (by decide) rfl dX7_endOfToken_39 ?_
        refine V_goto (tgt := 15) dX7_endOfToken_42 (by decide) ?_
        exact V_sub [1, 2, 3, 0] rfl h
theorem eX7_endOfToken {X : Cx} {v1 : Int} {σ : Sg} {Q : Int → Sg → Prop} (h : GX7_endOfToken_0 X v1 σ Q) : KX7_endOfToken X v1 σ Q := V_enter (by decide) (Nat.le_of_ble_eq_true rfl) rfl h
def GX7_readNumber_0 (X : Cx) (v1 : Int) (v2 : Int) (σ : Sg) (Q : Int → Sg → Prop) : Prop := VV X mX7_readNumber 0 [(0, .ref (cxA X 12)), (1, .int (gI v1)), (2, .int (gI v2))] [] σ Q
set_option maxHeartbeats 2000000 in
set_option maxRecDepth 20000 in
theorem rX7_readNumber_0 {X : Cx} {v1 : Int} {v2 : Int} {σ : Sg} {Q : Int → Sg → Prop} (h : Rng σ → (inI (v2 - v1)) ∧ ((¬ (v2 - v1) = 1 → Q 0 σ) ∧ ((v2 - v1) = 1 → KX11_isWithin X v1 160 σ (fun r3 σ4 => Rng σ4 → (inI r3) ∧ ((r3 = 0 → Q 0 σ4) ∧ (¬ r3 = 0 → (0 ≤ v1 ∧ v1 < 160) ∧ KX11_isWithin X ((σ4 13 v1.toNat) - 48) (σ4 12 4) σ4 (fun r9 σ10 => Rng σ10 → (inI r9) ∧ ((¬ r9 = 0 → (0 ≤ v1 ∧ v1 < 160) ∧ KX4_addNumber X 14 ((σ10 13 v1.toNat) - 48) σ10 (fun r15 σ16 => Rng σ16 → Q 1 (up2 σ16 12 4 0))) ∧ (r9 = 0 → Q 0 σ10))))))))) : GX7_readNumber_0 X v1 v2 σ Q := by
  unfold GX7_readNumber_0
  refine V_rng (fun hR0 => ?_)
  have h := h hR0
  refine V_iload_n 2 rfl rfl dX7_readNumber_0 ?_
  refine V_iload_n 1 rfl rfl dX7_readNumber_1 ?_
  refine V_isub dX7_readNumber_2 ?_
  refine V_iconst dX7_readNumber_3 ?_
  obtain ⟨g1, h⟩ := h
  refine V_icmp_ne (tgt := 36) dX7_readNumber_4 (by decide) g1 (by decide) (fun q2 => ?_) (fun q2 => ?_)
  · have h := h.1 q2
    refine V_iconst dX7_readNumber_36 ?_
    exact V_iret rfl (fun _ q => by cases q) (by decide) dX7_readNumber_37 h
  · have h := h.2 q2
    refine V_iload_n 1 rfl rfl dX7_readNumber_7 ?_
    refine V_sipush (v := 160) (by decide) dX7_readNumber_8 ?_
    refine V_cN (M' := mX11_isWithin) (As := [.int (gI v1), .int (gI 160)]) (fun r => [.int (gI r)]) ok_X11_isWithin ok2_X11_isWithin rfl rfl (Nat.le_of_ble_eq_true rfl) dX7_readNumber_11 lk_RX7_m49 (by decide) (fun _ => rfl) h (fun r3 σ4 h => ?_)
    refine V_rng (fun hR5 => ?_)
    have h := h hR5
    obtain ⟨g6, h⟩ := h
    refine V_if_eq (tgt := 36) dX7_readNumber_14 (by decide) g6 (fun q7 => ?_) (fun q7 => ?_)
    · have h := h.1 q7
      refine V_iconst dX7_readNumber_36 ?_
      exact V_iret rfl (fun _ q => by cases q) (by decide) dX7_readNumber_37 h
    · have h := h.2 q7
      refine V_aload_n 0 rfl rfl dX7_readNumber_17 ?_
      refine V_getR (f := 0) ci_X7 sh_12 rfl (by decide) (c1 := 13) rfl dX7_readNumber_18 lk_RX7_f11 ?_
      refine V_iload_n 1 rfl rfl dX7_readNumber_21 ?_
      obtain ⟨g8, h⟩ := h
      refine V_cald sh_13 (by decide) g8 dX7_readNumber_22 ?_
      refine V_bipush (v := 48) (by decide) dX7_readNumber_23 ?_
      refine V_isub dX7_readNumber_25 ?_
      refine V_aload_n 0 rfl rfl dX7_readNumber_26 ?_
      refine V_getI (f := 4) ci_X7 sh_12 rfl (by decide) dX7_readNumber_27 lk_RX7_f32 ?_
      refine V_cN (M' := mX11_isWithin) (As := [.int (gI ((σ4 13 v1.toNat) - 48)), .int (gI (σ4 12 4))]) (fun r => [.int (gI r)]) ok_X11_isWithin ok2_X11_isWithin rfl rfl (Nat.le_of_ble_eq_true rfl) dX7_readNumber_30 lk_RX7_m49 (by decide) (fun _ => rfl) h (fun r9 σ10 h => ?_)
      refine V_rng (fun hR11 => ?_)
      have h := h hR11
      obtain ⟨g12, h⟩ := h
      refine V_if_ne (tgt := 38) dX7_readNumber_33 (by decide) g12 (fun q13 => ?_) (fun q13 => ?_)
      · have h := h.1 q13
        refine V_aload_n 0 rfl rfl dX7_readNumber_38 ?_
        refine V_getR (f := 1) ci_X7 sh_12 rfl (by decide) (c1 := 14) rfl dX7_readNumber_39 lk_RX7_f18 ?_
        refine V_aload_n 0 rfl rfl dX7_readNumber_42 ?_
        refine V_getR (f := 0) ci_X7 sh_12 rfl (by decide) (c1 := 13) rfl dX7_readNumber_43 lk_RX7_f11 ?_
        refine V_iload_n 1 rfl rfl dX7_readNumber_46 ?_
        obtain ⟨g14, h⟩ := h
        refine V_cald sh_13 (by decide) g14 dX7_readNumber_47 ?_
        refine V_bipush (v := 48) (by decide) dX7_readNumber_48 ?_
        refine V_isub dX7_readNumber_50 ?_
        refine V_cV (M' := mX4_addNumber) (As := [.int (gI ((σ10 13 v1.toNat) - 48))]) (fun _ => []) ok_X4_addNumber ok2_X4_addNumber sh_14 rfl (by decide) rfl rfl (Nat.le_of_ble_eq_true rfl) dX7_readNumber_51 lk_RX7_m52 (by decide) (fun _ => rfl) h (fun r15 σ16 h => ?_)
        refine V_rng (fun hR17 => ?_)
        have h := h hR17
        refine V_aload_n 0 rfl rfl dX7_readNumber_54 ?_
        refine V_iconst dX7_readNumber_55 ?_
        refine V_putI (f := 4) ci_X7 sh_12 rfl (by decide) rfl rfl (by decide) dX7_readNumber_56 lk_RX7_f32 ?_
        refine V_iconst dX7_readNumber_59 ?_
        exact V_iret rfl (fun _ q => by cases q) (by decide) dX7_readNumber_60 h
      · have h := h.2 q13
        refine V_iconst dX7_readNumber_36 ?_
        exact V_iret rfl (fun _ q => by cases q) (by decide) dX7_readNumber_37 h
theorem eX7_readNumber {X : Cx} {v1 : Int} {v2 : Int} {σ : Sg} {Q : Int → Sg → Prop} (h : GX7_readNumber_0 X v1 v2 σ Q) : KX7_readNumber X v1 v2 σ Q := V_enter (by decide) (Nat.le_of_ble_eq_true rfl) rfl h
def GX7_readWord_0 (X : Cx) (v1 : Int) (v2 : Int) (σ : Sg) (Q : Int → Sg → Prop) : Prop := VV X mX7_readWord 0 [(0, .ref (cxA X 12)), (1, .int (gI v1)), (2, .int (gI v2))] [] σ Q
def GX7_readWord_20 (X : Cx) (v1 : Int) (v2 : Int) (s0 : Int) (σ : Sg) (Q : Int → Sg → Prop) : Prop := VV X mX7_readWord 20 [(0, .ref (cxA X 12)), (1, .int (gI v1)), (2, .int (gI v2))] [.int (gI s0)] σ Q
set_option maxHeartbeats 2000000 in
set_option maxRecDepth 20000 in
theorem rX7_readWord_0 {X : Cx} {v1 : Int} {v2 : Int} {σ : Sg} {Q : Int → Sg → Prop} (h : Rng σ → (((σ 12 3) ≤ 0 → GX7_readWord_20 X v1 v2 ((-1)) σ Q) ∧ (0 < (σ 12 3) → KX10_spelt X v1 v2 σ (fun r2 σ3 => Rng σ3 → GX7_readWord_20 X v1 v2 r2 σ3 Q)))) : GX7_readWord_0 X v1 v2 σ Q := by
  unfold GX7_readWord_0
  refine V_rng (fun hR0 => ?_)
  have h := h hR0
  refine V_aload_n 0 rfl rfl dX7_readWord_0 ?_
  refine V_getI (f := 3) ci_X7 sh_12 rfl (by decide) dX7_readWord_1 lk_RX7_f29 ?_
  refine V_if_le (tgt := 19) dX7_readWord_4 (by decide) (show inI (σ 12 3) from (inI_sh hR0 sh_12 (by decide))) (fun q1 => ?_) (fun q1 => ?_)
  · have h := h.1 q1
    refine V_iconst dX7_readWord_19 ?_
    exact h
  · have h := h.2 q1
    refine V_aload_n 0 rfl rfl dX7_readWord_7 ?_
    refine V_getR (f := 0) ci_X7 sh_12 rfl (by decide) (c1 := 13) rfl dX7_readWord_8 lk_RX7_f11 ?_
    refine V_iload_n 1 rfl rfl dX7_readWord_11 ?_
    refine V_iload_n 2 rfl rfl dX7_readWord_12 ?_
    refine V_cS (M' := mX10_spelt) (As := [.ref (cxA X 13), .int (gI v1), .int (gI v2)]) (fun r => [.int (gI r)]) ok_X10_spelt ok2_X10_spelt rfl rfl (Nat.le_of_ble_eq_true rfl) dX7_readWord_13 lk_RX7_m56 (by decide) (fun _ => rfl) h (fun r2 σ3 h => ?_)
    refine V_rng (fun hR4 => ?_)
    have h := h hR4
    refine V_goto (tgt := 20) dX7_readWord_16 (by decide) ?_
    exact h
set_option maxHeartbeats 2000000 in
set_option maxRecDepth 20000 in
theorem rX7_readWord_20 {X : Cx} {v1 : Int} {v2 : Int} {s0 : Int} {σ : Sg} {Q : Int → Sg → Prop} (h : Rng σ → (inI s0) ∧ ((s0 = ((-1)) → Q 0 σ) ∧ (¬ s0 = ((-1)) → KX4_add X 14 (8 * s0) σ (fun r3 σ4 => Rng σ4 → (inI r3) ∧ ((¬ r3 = 0 → KX10_parts X s0 σ4 (fun r8 σ9 => Rng σ9 → (inI ((σ4 12 3) + (r8 - 1))) ∧ KX10_numbers X s0 (up2 σ9 12 3 ((σ4 12 3) + (r8 - 1))) (fun r12 σ13 => Rng σ13 → (inI r12) ∧ Q 1 (up2 σ13 12 4 r12)))) ∧ (r3 = 0 → Q 0 σ4)))))) : GX7_readWord_20 X v1 v2 s0 σ Q := by
  unfold GX7_readWord_20
  refine V_rng (fun hR0 => ?_)
  have h := h hR0
  refine V_istore_n (L' := [(3, .int (gI s0)), (0, .ref (cxA X 12)), (1, .int (gI v1)), (2, .int (gI v2))]) rfl (by decide) rfl dX7_readWord_20 ?_
  refine V_iload_n 0 rfl rfl dX7_readWord_21 ?_
  refine V_iconst dX7_readWord_22 ?_
  obtain ⟨g1, h⟩ := h
  refine V_icmp_eq (tgt := 40) dX7_readWord_23 (by decide) g1 (by decide) (fun q2 => ?_) (fun q2 => ?_)
  · have h := h.1 q2
    refine V_iconst dX7_readWord_40 ?_
    exact V_iret rfl (fun _ q => by cases q) (by decide) dX7_readWord_41 h
  · have h := h.2 q2
    refine V_aload_n 1 rfl rfl dX7_readWord_26 ?_
    refine V_getR (f := 1) ci_X7 sh_12 rfl (by decide) (c1 := 14) rfl dX7_readWord_27 lk_RX7_f18 ?_
    refine V_bipush (v := 8) (by decide) dX7_readWord_30 ?_
    refine V_iload_n 0 rfl rfl dX7_readWord_32 ?_
    refine V_imul dX7_readWord_33 ?_
    refine V_cV (M' := mX4_add) (As := [.int (gI (8 * s0))]) (fun r => [.int (gI r)]) ok_X4_add ok2_X4_add sh_14 rfl (by decide) rfl rfl (Nat.le_of_ble_eq_true rfl) dX7_readWord_34 lk_RX7_m62 (by decide) (fun _ => rfl) h (fun r3 σ4 h => ?_)
    refine V_rng (fun hR5 => ?_)
    have h := h hR5
    obtain ⟨g6, h⟩ := h
    refine V_if_ne (tgt := 42) dX7_readWord_37 (by decide) g6 (fun q7 => ?_) (fun q7 => ?_)
    · have h := h.1 q7
      refine V_aload_n 1 rfl rfl dX7_readWord_42 ?_
      refine V_dup rfl dX7_readWord_43 ?_
      refine V_getI (f := 3) ci_X7 sh_12 rfl (by decide) dX7_readWord_44 lk_RX7_f29 ?_
      refine V_iload_n 0 rfl rfl dX7_readWord_47 ?_
      refine V_cS (M' := mX10_parts) (As := [.int (gI s0)]) (fun r => [.int (gI r), .int (gI (σ4 12 3)), .ref (cxA X 12)]) ok_X10_parts ok2_X10_parts rfl rfl (Nat.le_of_ble_eq_true rfl) dX7_readWord_48 lk_RX7_m66 (by decide) (fun _ => rfl) h (fun r8 σ9 h => ?_)
      refine V_rng (fun hR10 => ?_)
      have h := h hR10
      refine V_iconst dX7_readWord_51 ?_
      refine V_isub dX7_readWord_52 ?_
      refine V_iadd dX7_readWord_53 ?_
      obtain ⟨g11, h⟩ := h
      refine V_putI (f := 3) ci_X7 sh_12 rfl (by decide) rfl rfl g11 dX7_readWord_54 lk_RX7_f29 ?_
      refine V_aload_n 1 rfl rfl dX7_readWord_57 ?_
      refine V_iload_n 0 rfl rfl dX7_readWord_58 ?_
      refine V_cS (M' := mX10_numbers) (As := [.int (gI s0)]) (fun r => [.int (gI r), .ref (cxA X 12)]) ok_X10_numbers ok2_X10_numbers rfl rfl (Nat.le_of_ble_eq_true rfl) dX7_readWord_59 lk_RX7_m69 (by decide) (fun _ => rfl) h (fun r12 σ13 h => ?_)
      refine V_rng (fun hR14 => ?_)
      have h := h hR14
      obtain ⟨g15, h⟩ := h
      refine V_putI (f := 4) ci_X7 sh_12 rfl (by decide) rfl rfl g15 dX7_readWord_62 lk_RX7_f32 ?_
      refine V_iconst dX7_readWord_65 ?_
      exact V_iret rfl (fun _ q => by cases q) (by decide) dX7_readWord_66 h
    · have h := h.2 q7
      refine V_iconst dX7_readWord_40 ?_
      exact V_iret rfl (fun _ q => by cases q) (by decide) dX7_readWord_41 h
theorem eX7_readWord {X : Cx} {v1 : Int} {v2 : Int} {σ : Sg} {Q : Int → Sg → Prop} (h : GX7_readWord_0 X v1 v2 σ Q) : KX7_readWord X v1 v2 σ Q := V_enter (by decide) (Nat.le_of_ble_eq_true rfl) rfl h
def GX7_read_0 (X : Cx) (σ : Sg) (Q : Int → Sg → Prop) : Prop := VV X mX7_read 0 [(0, .ref (cxA X 12))] [] σ Q
def GX7_read_22 (X : Cx) (v1 : Int) (v2 : Int) (σ : Sg) (Q : Int → Sg → Prop) : Prop := VV X mX7_read 22 [(0, .ref (cxA X 12)), (1, .int (gI v1)), (2, .int (gI v2))] [] σ Q
def GX7_read_92 (X : Cx) (v1 : Int) (v2 : Int) (σ : Sg) (Q : Int → Sg → Prop) : Prop := VV X mX7_read 92 [(0, .ref (cxA X 12)), (1, .int (gI v1)), (2, .int (gI v2))] [] σ Q
def GX7_read_98 (X : Cx) (v1 : Int) (v2 : Int) (σ : Sg) (Q : Int → Sg → Prop) : Prop := VV X mX7_read 98 [(0, .ref (cxA X 12)), (1, .int (gI v1)), (2, .int (gI v2))] [] σ Q
set_option maxHeartbeats 2000000 in
set_option maxRecDepth 20000 in
theorem rX7_read_0 {X : Cx} {σ : Sg} {Q : Int → Sg → Prop} (h : Rng σ → GX7_read_22 X 0 0 (up2 (up2 (up2 σ 14 2 0) 12 3 1) 12 4 0) Q) : GX7_read_0 X σ Q := by
  unfold GX7_read_0
  refine V_rng (fun hR0 => ?_)
  have h := h hR0
  refine V_aload_n 0 rfl rfl dX7_read_0 ?_
  refine V_getR (f := 1) ci_X7 sh_12 rfl (by decide) (c1 := 14) rfl dX7_read_1 lk_RX7_f18 ?_
  refine V_iconst dX7_read_4 ?_
  refine V_putI (f := 2) ci_X4 sh_14 rfl (by decide) rfl rfl (by decide) dX7_read_5 lk_RX7_f28 ?_
  refine V_aload_n 0 rfl rfl dX7_read_8 ?_
  refine V_iconst dX7_read_9 ?_
  refine V_putI (f := 3) ci_X7 sh_12 rfl (by decide) rfl rfl (by decide) dX7_read_10 lk_RX7_f29 ?_
  refine V_aload_n 0 rfl rfl dX7_read_13 ?_
  refine V_iconst dX7_read_14 ?_
  refine V_putI (f := 4) ci_X7 sh_12 rfl (by decide) rfl rfl (by decide) dX7_read_15 lk_RX7_f32 ?_
  refine V_iconst dX7_read_18 ?_
  refine V_istore_n (L' := [(1, .int (gI 0)), (0, .ref (cxA X 12))]) rfl (by decide) rfl dX7_read_19 ?_
  refine V_iconst dX7_read_20 ?_
  refine V_istore_n (L' := [(2, .int (gI 0)), (1, .int (gI 0)), (0, .ref (cxA X 12))]) rfl (by decide) rfl dX7_read_21 ?_
  exact V_sub [2, 1, 0] rfl h
set_option maxHeartbeats 2000000 in
set_option maxRecDepth 20000 in
theorem rX7_read_22 {X : Cx} {v1 : Int} {v2 : Int} {σ : Sg} {Q : Int → Sg → Prop} (h : Rng σ → (inI v2) ∧ (((σ 12 2) ≤ v2 → GX7_read_98 X v1 v2 σ Q) ∧ (v2 < (σ 12 2) → (inI v2) ∧ ((160 ≤ v2 → GX7_read_98 X v1 v2 σ Q) ∧ (v2 < 160 → (inI v2) ∧ (inI v1) ∧ ((v2 < v1 → GX7_read_92 X v1 v2 σ Q) ∧ (v1 ≤ v2 → (0 ≤ v2 ∧ v2 < 160) ∧ ((¬ (σ 13 v2.toNat) = 32 → KX7_endOfToken X v2 σ (fun r10 σ11 => Rng σ11 → (((σ11 12 4) ≤ 0 → KX7_readWord X v2 r10 σ11 (fun r14 σ15 => Rng σ15 → (inI r14) ∧ ((¬ r14 = 0 → GX7_read_92 X r10 v2 σ15 Q) ∧ (r14 = 0 → Q v2 σ15)))) ∧ (0 < (σ11 12 4) → KX7_readNumber X v2 r10 σ11 (fun r19 σ20 => Rng σ20 → (inI r19) ∧ ((r19 = 0 → Q v2 σ20) ∧ (¬ r19 = 0 → GX7_read_92 X r10 v2 σ20 Q))))))) ∧ ((σ 13 v2.toNat) = 32 → GX7_read_92 X v1 v2 σ Q))))))))) : GX7_read_22 X v1 v2 σ Q := by
  unfold GX7_read_22
  refine V_rng (fun hR0 => ?_)
  have h := h hR0
  refine V_iload_n 2 rfl rfl dX7_read_22 ?_
  refine V_aload_n 0 rfl rfl dX7_read_23 ?_
  refine V_getI (f := 2) ci_X7 sh_12 rfl (by decide) dX7_read_24 lk_RX7_f22 ?_
  obtain ⟨g1, h⟩ := h
  refine V_icmp_ge (tgt := 98) dX7_read_27 (by decide) g1 (show inI (σ 12 2) from (inI_sh hR0 sh_12 (by decide))) (fun q2 => ?_) (fun q2 => ?_)
  · have h := h.1 q2
    exact h
  · have h := h.2 q2
    refine V_iload_n 2 rfl rfl dX7_read_30 ?_
    refine V_sipush (v := 160) (by decide) dX7_read_31 ?_
    obtain ⟨g3, h⟩ := h
    refine V_icmp_ge (tgt := 98) dX7_read_34 (by decide) g3 (by decide) (fun q4 => ?_) (fun q4 => ?_)
    · have h := h.1 q4
      exact h
    · have h := h.2 q4
      refine V_iload_n 2 rfl rfl dX7_read_37 ?_
      refine V_iload_n 1 rfl rfl dX7_read_38 ?_
      obtain ⟨g5, h⟩ := h
      obtain ⟨g6, h⟩ := h
      refine V_icmp_lt (tgt := 92) dX7_read_39 (by decide) g5 g6 (fun q7 => ?_) (fun q7 => ?_)
      · have h := h.1 q7
        exact h
      · have h := h.2 q7
        refine V_aload_n 0 rfl rfl dX7_read_42 ?_
        refine V_getR (f := 0) ci_X7 sh_12 rfl (by decide) (c1 := 13) rfl dX7_read_43 lk_RX7_f11 ?_
        refine V_iload_n 2 rfl rfl dX7_read_46 ?_
        obtain ⟨g8, h⟩ := h
        refine V_cald sh_13 (by decide) g8 dX7_read_47 ?_
        refine V_bipush (v := 32) (by decide) dX7_read_48 ?_
        refine V_icmp_ne (tgt := 56) dX7_read_50 (by decide) (show inI (σ 13 v2.toNat) from (inI_sh hR0 sh_13 (by decide))) (by decide) (fun q9 => ?_) (fun q9 => ?_)
        · have h := h.1 q9
          refine V_aload_n 0 rfl rfl dX7_read_56 ?_
          refine V_iload_n 2 rfl rfl dX7_read_57 ?_
          refine V_cV (M' := mX7_endOfToken) (As := [.int (gI v2)]) (fun r => [.int (gI r)]) ok_X7_endOfToken ok2_X7_endOfToken sh_12 rfl (by decide) rfl rfl (Nat.le_of_ble_eq_true rfl) dX7_read_58 lk_RX7_m35 (by decide) (fun _ => rfl) h (fun r10 σ11 h => ?_)
          refine V_rng (fun hR12 => ?_)
          have h := h hR12
          refine V_istore_n (L' := [(1, .int (gI r10)), (0, .ref (cxA X 12)), (2, .int (gI v2))]) rfl (by decide) rfl dX7_read_61 ?_
          refine V_aload_n 1 rfl rfl dX7_read_62 ?_
          refine V_getI (f := 4) ci_X7 sh_12 rfl (by decide) dX7_read_63 lk_RX7_f32 ?_
          refine V_if_le (tgt := 81) dX7_read_66 (by decide) (show inI (σ11 12 4) from (inI_sh hR12 sh_12 (by decide))) (fun q13 => ?_) (fun q13 => ?_)
          · have h := h.1 q13
            refine V_aload_n 1 rfl rfl dX7_read_81 ?_
            refine V_iload_n 2 rfl rfl dX7_read_82 ?_
            refine V_iload_n 0 rfl rfl dX7_read_83 ?_
            refine V_cV (M' := mX7_readWord) (As := [.int (gI v2), .int (gI r10)]) (fun r => [.int (gI r)]) ok_X7_readWord ok2_X7_readWord sh_12 rfl (by decide) rfl rfl (Nat.le_of_ble_eq_true rfl) dX7_read_84 lk_RX7_m43 (by decide) (fun _ => rfl) h (fun r14 σ15 h => ?_)
            refine V_rng (fun hR16 => ?_)
            have h := h hR16
            obtain ⟨g17, h⟩ := h
            refine V_if_ne (tgt := 92) dX7_read_87 (by decide) g17 (fun q18 => ?_) (fun q18 => ?_)
            · have h := h.1 q18
              exact V_sub [1, 0, 2] rfl h
            · have h := h.2 q18
              refine V_iload_n 2 rfl rfl dX7_read_90 ?_
              exact V_iret rfl (fun _ q => by cases q) (vp_nar_int _) dX7_read_91 h
          · have h := h.2 q13
            refine V_aload_n 1 rfl rfl dX7_read_69 ?_
            refine V_iload_n 2 rfl rfl dX7_read_70 ?_
            refine V_iload_n 0 rfl rfl dX7_read_71 ?_
            refine V_cV (M' := mX7_readNumber) (As := [.int (gI v2), .int (gI r10)]) (fun r => [.int (gI r)]) ok_X7_readNumber ok2_X7_readNumber sh_12 rfl (by decide) rfl rfl (Nat.le_of_ble_eq_true rfl) dX7_read_72 lk_RX7_m39 (by decide) (fun _ => rfl) h (fun r19 σ20 h => ?_)
            refine V_rng (fun hR21 => ?_)
            have h := h hR21
            obtain ⟨g22, h⟩ := h
            refine V_if_eq (tgt := 90) dX7_read_75 (by decide) g22 (fun q23 => ?_) (fun q23 => ?_)
            · have h := h.1 q23
              refine V_iload_n 2 rfl rfl dX7_read_90 ?_
              exact V_iret rfl (fun _ q => by cases q) (vp_nar_int _) dX7_read_91 h
            · have h := h.2 q23
              refine V_goto (tgt := 92) dX7_read_78 (by decide) ?_
              exact V_sub [1, 0, 2] rfl h
        · have h := h.2 q9
          refine V_goto (tgt := 92) dX7_read_53 (by decide) ?_
          exact h
set_option maxHeartbeats 2000000 in
set_option maxRecDepth 20000 in
theorem rX7_read_92 {X : Cx} {v1 : Int} {v2 : Int} {σ : Sg} {Q : Int → Sg → Prop} (h : Rng σ → GX7_read_22 X v1 (v2 + 1) σ Q) : GX7_read_92 X v1 v2 σ Q := by
  unfold GX7_read_92
  refine V_rng (fun hR0 => ?_)
  have h := h hR0
  refine V_iinc (L' := [(2, .int (gI (v2 + 1))), (0, .ref (cxA X 12)), (1, .int (gI v1))]) 2 rfl (by decide) rfl dX7_read_92 ?_
  refine V_goto (tgt := 22) dX7_read_95 (by decide) ?_
  exact V_sub [1, 2, 0] rfl h
set_option maxHeartbeats 2000000 in
set_option maxRecDepth 20000 in
theorem rX7_read_98 {X : Cx} {v1 : Int} {v2 : Int} {σ : Sg} {Q : Int → Sg → Prop} (h : Rng σ → ((0 < (σ 12 3) → Q (σ 12 2) σ) ∧ ((σ 12 3) ≤ 0 → (((σ 12 4) ≤ 0 → Q ((-1)) σ) ∧ (0 < (σ 12 4) → Q (σ 12 2) σ))))) : GX7_read_98 X v1 v2 σ Q := by
  unfold GX7_read_98
  refine V_rng (fun hR0 => ?_)
  have h := h hR0
  refine V_aload_n 0 rfl rfl dX7_read_98 ?_
  refine V_getI (f := 3) ci_X7 sh_12 rfl (by decide) dX7_read_99 lk_RX7_f29 ?_
  refine V_if_gt (tgt := 112) dX7_read_102 (by decide) (show inI (σ 12 3) from (inI_sh hR0 sh_12 (by decide))) (fun q1 => ?_) (fun q1 => ?_)
  · have h := h.1 q1
    refine V_aload_n 0 rfl rfl dX7_read_112 ?_
    refine V_getI (f := 2) ci_X7 sh_12 rfl (by decide) dX7_read_113 lk_RX7_f22 ?_
    refine V_goto (tgt := 120) dX7_read_116 (by decide) ?_
    exact V_iret rfl (fun _ q => by cases q) (vp_nar_int _) dX7_read_120 h
  · have h := h.2 q1
    refine V_aload_n 0 rfl rfl dX7_read_105 ?_
    refine V_getI (f := 4) ci_X7 sh_12 rfl (by decide) dX7_read_106 lk_RX7_f32 ?_
    refine V_if_le (tgt := 119) dX7_read_109 (by decide) (show inI (σ 12 4) from (inI_sh hR0 sh_12 (by decide))) (fun q2 => ?_) (fun q2 => ?_)
    · have h := h.1 q2
      refine V_iconst dX7_read_119 ?_
      exact V_iret rfl (fun _ q => by cases q) (vp_nar_int _) dX7_read_120 h
    · have h := h.2 q2
      refine V_aload_n 0 rfl rfl dX7_read_112 ?_
      refine V_getI (f := 2) ci_X7 sh_12 rfl (by decide) dX7_read_113 lk_RX7_f22 ?_
      refine V_goto (tgt := 120) dX7_read_116 (by decide) ?_
      exact V_iret rfl (fun _ q => by cases q) (vp_nar_int _) dX7_read_120 h
theorem eX7_read {X : Cx} {σ : Sg} {Q : Int → Sg → Prop} (h : GX7_read_0 X σ Q) : KX7_read X σ Q := V_enter (by decide) (Nat.le_of_ble_eq_true rfl) rfl h
def GX8_looksLike_0 (X : Cx) (v1 : Int) (σ : Sg) (Q : Int → Sg → Prop) : Prop := VV X mX8_looksLike 0 [(0, .ref (cxA X 1)), (1, .int (gI v1))] [] σ Q
def GX8_looksLike_4 (X : Cx) (v1 : Int) (v2 : Int) (v3 : Int) (σ : Sg) (Q : Int → Sg → Prop) : Prop := VV X mX8_looksLike 4 [(0, .ref (cxA X 1)), (1, .int (gI v1)), (2, .int (gI v2)), (3, .int (gI v3))] [] σ Q
def GX8_looksLike_81 (X : Cx) (v1 : Int) (v2 : Int) (v3 : Int) (σ : Sg) (Q : Int → Sg → Prop) : Prop := VV X mX8_looksLike 81 [(0, .ref (cxA X 1)), (1, .int (gI v1)), (2, .int (gI v2)), (3, .int (gI v3))] [] σ Q
set_option maxHeartbeats 2000000 in
set_option maxRecDepth 20000 in
theorem rX8_looksLike_0 {X : Cx} {v1 : Int} {σ : Sg} {Q : Int → Sg → Prop} (h : Rng σ → GX8_looksLike_4 X v1 0 0 σ Q) : GX8_looksLike_0 X v1 σ Q := by
  unfold GX8_looksLike_0
  refine V_rng (fun hR0 => ?_)
  have h := h hR0
  refine V_iconst dX8_looksLike_0 ?_
  refine V_istore_n (L' := [(2, .int (gI 0)), (0, .ref (cxA X 1)), (1, .int (gI v1))]) rfl (by decide) rfl dX8_looksLike_1 ?_
  refine V_iconst dX8_looksLike_2 ?_
  refine V_istore_n (L' := [(3, .int (gI 0)), (2, .int (gI 0)), (0, .ref (cxA X 1)), (1, .int (gI v1))]) rfl (by decide) rfl dX8_looksLike_3 ?_
  exact V_sub [2, 3, 1, 0] rfl h
set_option maxHeartbeats 2000000 in
set_option maxRecDepth 20000 in
theorem rX8_looksLike_4 {X : Cx} {v1 : Int} {v2 : Int} {v3 : Int} {σ : Sg} {Q : Int → Sg → Prop} (h : Rng σ → (inI v3) ∧ (((σ 1 1) ≤ v3 → Q v2 σ) ∧ (v3 < (σ 1 1) → (inI v3) ∧ ((8 ≤ v3 → Q v2 σ) ∧ (v3 < 8 → (0 ≤ v3 ∧ v3 < 8) ∧ (0 ≤ v1 ∧ v1 < 8) ∧ ((¬ (σ 3 v3.toNat) = (σ 3 v1.toNat) → GX8_looksLike_81 X v1 v2 v3 σ Q) ∧ ((σ 3 v3.toNat) = (σ 3 v1.toNat) → (0 ≤ v3 ∧ v3 < 8) ∧ (0 ≤ v1 ∧ v1 < 8) ∧ ((¬ (σ 4 v3.toNat) = (σ 4 v1.toNat) → GX8_looksLike_81 X v1 v2 v3 σ Q) ∧ ((σ 4 v3.toNat) = (σ 4 v1.toNat) → (0 ≤ v3 ∧ v3 < 8) ∧ (0 ≤ v1 ∧ v1 < 8) ∧ ((¬ (σ 6 v3.toNat) = (σ 6 v1.toNat) → GX8_looksLike_81 X v1 v2 v3 σ Q) ∧ ((σ 6 v3.toNat) = (σ 6 v1.toNat) → GX8_looksLike_81 X v1 (zor v2 (zshl 1 v3)) v3 σ Q))))))))))) : GX8_looksLike_4 X v1 v2 v3 σ Q := by
  unfold GX8_looksLike_4
  refine V_rng (fun hR0 => ?_)
  have h := h hR0
  refine V_iload_n 3 rfl rfl dX8_looksLike_4 ?_
  refine V_aload_n 0 rfl rfl dX8_looksLike_5 ?_
  refine V_getI (f := 1) ci_X5 sh_1 rfl (by decide) dX8_looksLike_6 lk_RX8_f21 ?_
  obtain ⟨g1, h⟩ := h
  refine V_icmp_ge (tgt := 87) dX8_looksLike_9 (by decide) g1 (show inI (σ 1 1) from (inI_sh hR0 sh_1 (by decide))) (fun q2 => ?_) (fun q2 => ?_)
  · have h := h.1 q2
    refine V_iload_n 2 rfl rfl dX8_looksLike_87 ?_
    exact V_iret rfl (fun _ q => by cases q) (vp_nar_int _) dX8_looksLike_88 h
  · have h := h.2 q2
    refine V_iload_n 3 rfl rfl dX8_looksLike_12 ?_
    refine V_bipush (v := 8) (by decide) dX8_looksLike_13 ?_
    obtain ⟨g3, h⟩ := h
    refine V_icmp_ge (tgt := 87) dX8_looksLike_15 (by decide) g3 (by decide) (fun q4 => ?_) (fun q4 => ?_)
    · have h := h.1 q4
      refine V_iload_n 2 rfl rfl dX8_looksLike_87 ?_
      exact V_iret rfl (fun _ q => by cases q) (vp_nar_int _) dX8_looksLike_88 h
    · have h := h.2 q4
      refine V_aload_n 0 rfl rfl dX8_looksLike_18 ?_
      refine V_getR (f := 0) ci_X5 sh_1 rfl (by decide) (c1 := 2) rfl dX8_looksLike_19 lk_RX8_f41 ?_
      refine V_iconst dX8_looksLike_22 ?_
      refine V_aald (c1 := 3) sh_2 (by decide) (by decide) rfl dX8_looksLike_23 ?_
      refine V_iload_n 3 rfl rfl dX8_looksLike_24 ?_
      obtain ⟨g5, h⟩ := h
      refine V_iald sh_3 (by decide) g5 dX8_looksLike_25 ?_
      refine V_aload_n 0 rfl rfl dX8_looksLike_26 ?_
      refine V_getR (f := 0) ci_X5 sh_1 rfl (by decide) (c1 := 2) rfl dX8_looksLike_27 lk_RX8_f41 ?_
      refine V_iconst dX8_looksLike_30 ?_
      refine V_aald (c1 := 3) sh_2 (by decide) (by decide) rfl dX8_looksLike_31 ?_
      refine V_iload_n 1 rfl rfl dX8_looksLike_32 ?_
      obtain ⟨g6, h⟩ := h
      refine V_iald sh_3 (by decide) g6 dX8_looksLike_33 ?_
      refine V_icmp_ne (tgt := 81) dX8_looksLike_34 (by decide) (show inI (σ 3 v3.toNat) from (inI_sh hR0 sh_3 (by decide))) (show inI (σ 3 v1.toNat) from (inI_sh hR0 sh_3 (by decide))) (fun q7 => ?_) (fun q7 => ?_)
      · have h := h.1 q7
        exact h
      · have h := h.2 q7
        refine V_aload_n 0 rfl rfl dX8_looksLike_37 ?_
        refine V_getR (f := 0) ci_X5 sh_1 rfl (by decide) (c1 := 2) rfl dX8_looksLike_38 lk_RX8_f41 ?_
        refine V_iconst dX8_looksLike_41 ?_
        refine V_aald (c1 := 4) sh_2 (by decide) (by decide) rfl dX8_looksLike_42 ?_
        refine V_iload_n 3 rfl rfl dX8_looksLike_43 ?_
        obtain ⟨g8, h⟩ := h
        refine V_iald sh_4 (by decide) g8 dX8_looksLike_44 ?_
        refine V_aload_n 0 rfl rfl dX8_looksLike_45 ?_
        refine V_getR (f := 0) ci_X5 sh_1 rfl (by decide) (c1 := 2) rfl dX8_looksLike_46 lk_RX8_f41 ?_
        refine V_iconst dX8_looksLike_49 ?_
        refine V_aald (c1 := 4) sh_2 (by decide) (by decide) rfl dX8_looksLike_50 ?_
        refine V_iload_n 1 rfl rfl dX8_looksLike_51 ?_
        obtain ⟨g9, h⟩ := h
        refine V_iald sh_4 (by decide) g9 dX8_looksLike_52 ?_
        refine V_icmp_ne (tgt := 81) dX8_looksLike_53 (by decide) (show inI (σ 4 v3.toNat) from (inI_sh hR0 sh_4 (by decide))) (show inI (σ 4 v1.toNat) from (inI_sh hR0 sh_4 (by decide))) (fun q10 => ?_) (fun q10 => ?_)
        · have h := h.1 q10
          exact h
        · have h := h.2 q10
          refine V_aload_n 0 rfl rfl dX8_looksLike_56 ?_
          refine V_getR (f := 0) ci_X5 sh_1 rfl (by decide) (c1 := 2) rfl dX8_looksLike_57 lk_RX8_f41 ?_
          refine V_iconst dX8_looksLike_60 ?_
          refine V_aald (c1 := 6) sh_2 (by decide) (by decide) rfl dX8_looksLike_61 ?_
          refine V_iload_n 3 rfl rfl dX8_looksLike_62 ?_
          obtain ⟨g11, h⟩ := h
          refine V_iald sh_6 (by decide) g11 dX8_looksLike_63 ?_
          refine V_aload_n 0 rfl rfl dX8_looksLike_64 ?_
          refine V_getR (f := 0) ci_X5 sh_1 rfl (by decide) (c1 := 2) rfl dX8_looksLike_65 lk_RX8_f41 ?_
          refine V_iconst dX8_looksLike_68 ?_
          refine V_aald (c1 := 6) sh_2 (by decide) (by decide) rfl dX8_looksLike_69 ?_
          refine V_iload_n 1 rfl rfl dX8_looksLike_70 ?_
          obtain ⟨g12, h⟩ := h
          refine V_iald sh_6 (by decide) g12 dX8_looksLike_71 ?_
          refine V_icmp_ne (tgt := 81) dX8_looksLike_72 (by decide) (show inI (σ 6 v3.toNat) from (inI_sh hR0 sh_6 (by decide))) (show inI (σ 6 v1.toNat) from (inI_sh hR0 sh_6 (by decide))) (fun q13 => ?_) (fun q13 => ?_)
          · have h := h.1 q13
            exact h
          · have h := h.2 q13
            refine V_iload_n 2 rfl rfl dX8_looksLike_75 ?_
            refine V_iconst dX8_looksLike_76 ?_
            refine V_iload_n 3 rfl rfl dX8_looksLike_77 ?_
            refine V_ishl dX8_looksLike_78 ?_
            refine V_ior dX8_looksLike_79 ?_
            refine V_istore_n (L' := [(2, .int (gI (zor v2 (zshl 1 v3)))), (0, .ref (cxA X 1)), (1, .int (gI v1)), (3, .int (gI v3))]) rfl (by decide) rfl dX8_looksLike_80 ?_
            exact V_sub [1, 2, 0, 3] rfl h
set_option maxHeartbeats 2000000 in
set_option maxRecDepth 20000 in
theorem rX8_looksLike_81 {X : Cx} {v1 : Int} {v2 : Int} {v3 : Int} {σ : Sg} {Q : Int → Sg → Prop} (h : Rng σ → GX8_looksLike_4 X v1 v2 (v3 + 1) σ Q) : GX8_looksLike_81 X v1 v2 v3 σ Q := by
  unfold GX8_looksLike_81
  refine V_rng (fun hR0 => ?_)
  have h := h hR0
  refine V_iinc (L' := [(3, .int (gI (v3 + 1))), (0, .ref (cxA X 1)), (1, .int (gI v1)), (2, .int (gI v2))]) 3 rfl (by decide) rfl dX8_looksLike_81 ?_
  refine V_goto (tgt := 4) dX8_looksLike_84 (by decide) ?_
  exact V_sub [1, 2, 3, 0] rfl h
theorem eX8_looksLike {X : Cx} {v1 : Int} {σ : Sg} {Q : Int → Sg → Prop} (h : GX8_looksLike_0 X v1 σ Q) : KX8_looksLike X v1 σ Q := V_enter (by decide) (Nat.le_of_ble_eq_true rfl) rfl h
def GX8_hasAsMany_0 (X : Cx) (v2 : Int) (v3 : Int) (σ : Sg) (Q : Int → Sg → Prop) : Prop := VV X mX8_hasAsMany 0 [(0, .ref (cxA X 57)), (1, .ref (cxA X 1)), (2, .int (gI v2)), (3, .int (gI v3))] [] σ Q
def GX8_hasAsMany_3 (X : Cx) (v2 : Int) (v3 : Int) (v4 : Int) (σ : Sg) (Q : Int → Sg → Prop) : Prop := VV X mX8_hasAsMany 3 [(0, .ref (cxA X 57)), (1, .ref (cxA X 1)), (2, .int (gI v2)), (3, .int (gI v3)), (4, .int (gI v4))] [] σ Q
def GX8_hasAsMany_22 (X : Cx) (v2 : Int) (v3 : Int) (v4 : Int) (c5 : Nat) (v6 : Int) (σ : Sg) (Q : Int → Sg → Prop) : Prop := VV X mX8_hasAsMany 22 [(0, .ref (cxA X 57)), (1, .ref (cxA X 1)), (2, .int (gI v2)), (3, .int (gI v3)), (4, .int (gI v4)), (5, .ref (cxA X c5)), (6, .int (gI v6))] [] σ Q
def GX8_hasAsMany_79 (X : Cx) (v2 : Int) (v3 : Int) (v4 : Int) (c5 : Nat) (v6 : Int) (σ : Sg) (Q : Int → Sg → Prop) : Prop := VV X mX8_hasAsMany 79 [(0, .ref (cxA X 57)), (1, .ref (cxA X 1)), (2, .int (gI v2)), (3, .int (gI v3)), (4, .int (gI v4)), (5, .ref (cxA X c5)), (6, .int (gI v6))] [] σ Q
set_option maxHeartbeats 2000000 in
set_option maxRecDepth 20000 in
theorem rX8_hasAsMany_0 {X : Cx} {v2 : Int} {v3 : Int} {σ : Sg} {Q : Int → Sg → Prop} (h : Rng σ → GX8_hasAsMany_3 X v2 v3 5 σ Q) : GX8_hasAsMany_0 X v2 v3 σ Q := by
  unfold GX8_hasAsMany_0
  refine V_rng (fun hR0 => ?_)
  have h := h hR0
  refine V_iconst dX8_hasAsMany_0 ?_
  refine V_istore (L' := [(4, .int (gI 5)), (0, .ref (cxA X 57)), (1, .ref (cxA X 1)), (2, .int (gI v2)), (3, .int (gI v3))]) (by decide) rfl dX8_hasAsMany_1 ?_
  exact V_sub [1, 2, 3, 4, 0] rfl h
set_option maxHeartbeats 2000000 in
set_option maxRecDepth 20000 in
theorem rX8_hasAsMany_3 {X : Cx} {v2 : Int} {v3 : Int} {v4 : Int} {σ : Sg} {Q : Int → Sg → Prop} (h : Rng σ → (inI v4) ∧ ((7 < v4 → Q 1 σ) ∧ (v4 ≤ 7 → (0 ≤ v4 ∧ v4 < 8) ∧ GX8_hasAsMany_22 X v2 v3 v4 (3 + v4.toNat) 0 σ Q))) : GX8_hasAsMany_3 X v2 v3 v4 σ Q := by
  unfold GX8_hasAsMany_3
  refine V_rng (fun hR0 => ?_)
  have h := h hR0
  refine V_iload 4 rfl dX8_hasAsMany_3 ?_
  refine V_bipush (v := 7) (by decide) dX8_hasAsMany_5 ?_
  obtain ⟨g1, h⟩ := h
  refine V_icmp_gt (tgt := 85) dX8_hasAsMany_7 (by decide) g1 (by decide) (fun q2 => ?_) (fun q2 => ?_)
  · have h := h.1 q2
    refine V_iconst dX8_hasAsMany_85 ?_
    exact V_iret rfl (fun _ q => by cases q) (by decide) dX8_hasAsMany_86 h
  · have h := h.2 q2
    refine V_aload_n 1 rfl rfl dX8_hasAsMany_10 ?_
    refine V_getR (f := 0) ci_X5 sh_1 rfl (by decide) (c1 := 2) rfl dX8_hasAsMany_11 lk_RX8_f41 ?_
    refine V_iload 4 rfl dX8_hasAsMany_14 ?_
    obtain ⟨g3, h⟩ := h
    refine V_aald (c1 := 3 + v4.toNat) sh_2 (by decide) g3 (by omega) dX8_hasAsMany_16 ?_
    refine V_astore (L' := [(5, .ref (cxA X (3 + v4.toNat))), (0, .ref (cxA X 57)), (1, .ref (cxA X 1)), (2, .int (gI v2)), (3, .int (gI v3)), (4, .int (gI v4))]) (by decide) rfl dX8_hasAsMany_17 ?_
    refine V_iconst dX8_hasAsMany_19 ?_
    refine V_istore (L' := [(6, .int (gI 0)), (5, .ref (cxA X (3 + v4.toNat))), (0, .ref (cxA X 57)), (1, .ref (cxA X 1)), (2, .int (gI v2)), (3, .int (gI v3)), (4, .int (gI v4))]) (by decide) rfl dX8_hasAsMany_20 ?_
    exact V_sub [2, 3, 4, 5, 6, 1, 0] rfl h
set_option maxHeartbeats 2000000 in
set_option maxRecDepth 20000 in
theorem rX8_hasAsMany_22 {X : Cx} {v2 : Int} {v3 : Int} {v4 : Int} {c5 : Nat} {v6 : Int} (hc5 : shp c5 = (20, 8)) {σ : Sg} {Q : Int → Sg → Prop} (h : Rng σ → (inI v6) ∧ (((σ 1 1) ≤ v6 → GX8_hasAsMany_79 X v2 v3 v4 c5 v6 σ Q) ∧ (v6 < (σ 1 1) → (inI v6) ∧ ((8 ≤ v6 → GX8_hasAsMany_79 X v2 v3 v4 c5 v6 σ Q) ∧ (v6 < 8 → (0 ≤ v2 ∧ v2 < 8) ∧ (0 ≤ v6 ∧ v6 < 8) ∧ KJ6_bitCount_0f7a4 X (zand (σ c5 v2.toNat) (σ 60 v6.toNat)) σ (fun r7 σ8 => Rng σ8 → (0 ≤ v3 ∧ v3 < 8) ∧ (0 ≤ v6 ∧ v6 < 8) ∧ KJ6_bitCount_0f7a4 X (zand (σ8 c5 v3.toNat) (σ8 60 v6.toNat)) σ8 (fun r12 σ13 => Rng σ13 → (inI r7) ∧ (inI r12) ∧ ((r7 = r12 → GX8_hasAsMany_22 X v2 v3 v4 c5 (v6 + 1) σ13 Q) ∧ (¬ r7 = r12 → Q 0 σ13))))))))) : GX8_hasAsMany_22 X v2 v3 v4 c5 v6 σ Q := by
  unfold GX8_hasAsMany_22
  refine V_rng (fun hR0 => ?_)
  have h := h hR0
  refine V_iload 6 rfl dX8_hasAsMany_22 ?_
  refine V_aload_n 1 rfl rfl dX8_hasAsMany_24 ?_
  refine V_getI (f := 1) ci_X5 sh_1 rfl (by decide) dX8_hasAsMany_25 lk_RX8_f21 ?_
  obtain ⟨g1, h⟩ := h
  refine V_icmp_ge (tgt := 79) dX8_hasAsMany_28 (by decide) g1 (show inI (σ 1 1) from (inI_sh hR0 sh_1 (by decide))) (fun q2 => ?_) (fun q2 => ?_)
  · have h := h.1 q2
    exact h
  · have h := h.2 q2
    refine V_iload 6 rfl dX8_hasAsMany_31 ?_
    refine V_bipush (v := 8) (by decide) dX8_hasAsMany_33 ?_
    obtain ⟨g3, h⟩ := h
    refine V_icmp_ge (tgt := 79) dX8_hasAsMany_35 (by decide) g3 (by decide) (fun q4 => ?_) (fun q4 => ?_)
    · have h := h.1 q4
      exact h
    · have h := h.2 q4
      refine V_aload 5 rfl dX8_hasAsMany_38 ?_
      refine V_iload_n 2 rfl rfl dX8_hasAsMany_40 ?_
      obtain ⟨g5, h⟩ := h
      refine V_iald hc5 (by decide) g5 dX8_hasAsMany_41 ?_
      refine V_aload_n 0 rfl rfl dX8_hasAsMany_42 ?_
      refine V_getR (f := 2) ci_X8 sh_57 rfl (by decide) (c1 := 60) rfl dX8_hasAsMany_43 lk_RX8_f18 ?_
      refine V_iload 6 rfl dX8_hasAsMany_46 ?_
      obtain ⟨g6, h⟩ := h
      refine V_iald sh_60 (by decide) g6 dX8_hasAsMany_48 ?_
      refine V_iand dX8_hasAsMany_49 ?_
      refine V_cS (M' := mJ6_bitCount_0f7a4) (As := [.int (gI (zand (σ c5 v2.toNat) (σ 60 v6.toNat)))]) (fun r => [.int (gI r)]) ok_J6_bitCount_0f7a4 ok2_J6_bitCount_0f7a4 rfl rfl (Nat.le_of_ble_eq_true rfl) dX8_hasAsMany_50 lk_RX8_m55 (by decide) (fun _ => rfl) h (fun r7 σ8 h => ?_)
      refine V_rng (fun hR9 => ?_)
      have h := h hR9
      refine V_aload 5 rfl dX8_hasAsMany_53 ?_
      refine V_iload_n 3 rfl rfl dX8_hasAsMany_55 ?_
      obtain ⟨g10, h⟩ := h
      refine V_iald hc5 (by decide) g10 dX8_hasAsMany_56 ?_
      refine V_aload_n 0 rfl rfl dX8_hasAsMany_57 ?_
      refine V_getR (f := 2) ci_X8 sh_57 rfl (by decide) (c1 := 60) rfl dX8_hasAsMany_58 lk_RX8_f18 ?_
      refine V_iload 6 rfl dX8_hasAsMany_61 ?_
      obtain ⟨g11, h⟩ := h
      refine V_iald sh_60 (by decide) g11 dX8_hasAsMany_63 ?_
      refine V_iand dX8_hasAsMany_64 ?_
      refine V_cS (M' := mJ6_bitCount_0f7a4) (As := [.int (gI (zand (σ8 c5 v3.toNat) (σ8 60 v6.toNat)))]) (fun r => [.int (gI r), .int (gI r7)]) ok_J6_bitCount_0f7a4 ok2_J6_bitCount_0f7a4 rfl rfl (Nat.le_of_ble_eq_true rfl) dX8_hasAsMany_65 lk_RX8_m55 (by decide) (fun _ => rfl) h (fun r12 σ13 h => ?_)
      refine V_rng (fun hR14 => ?_)
      have h := h hR14
      obtain ⟨g15, h⟩ := h
      obtain ⟨g16, h⟩ := h
      refine V_icmp_eq (tgt := 73) dX8_hasAsMany_68 (by decide) g15 g16 (fun q17 => ?_) (fun q17 => ?_)
      · have h := h.1 q17
        refine V_iinc (L' := [(6, .int (gI (v6 + 1))), (0, .ref (cxA X 57)), (1, .ref (cxA X 1)), (2, .int (gI v2)), (3, .int (gI v3)), (4, .int (gI v4)), (5, .ref (cxA X c5))]) 6 rfl (by decide) rfl dX8_hasAsMany_73 ?_
        refine V_goto (tgt := 22) dX8_hasAsMany_76 (by decide) ?_
        exact V_sub [1, 2, 3, 4, 5, 6, 0] rfl h
      · have h := h.2 q17
        refine V_iconst dX8_hasAsMany_71 ?_
        exact V_iret rfl (fun _ q => by cases q) (by decide) dX8_hasAsMany_72 h
set_option maxHeartbeats 2000000 in
set_option maxRecDepth 20000 in
theorem rX8_hasAsMany_79 {X : Cx} {v2 : Int} {v3 : Int} {v4 : Int} {c5 : Nat} {v6 : Int} (hc5 : shp c5 = (20, 8)) {σ : Sg} {Q : Int → Sg → Prop} (h : Rng σ → GX8_hasAsMany_3 X v2 v3 (v4 + 1) σ Q) : GX8_hasAsMany_79 X v2 v3 v4 c5 v6 σ Q := by
  unfold GX8_hasAsMany_79
  refine V_rng (fun hR0 => ?_)
  have h := h hR0
  refine V_iinc (L' := [(4, .int (gI (v4 + 1))), (0, .ref (cxA X 57)), (1, .ref (cxA X 1)), (2, .int (gI v2)), (3, .int (gI v3)), (5, .ref (cxA X c5)), (6, .int (gI v6))]) 4 rfl (by decide) rfl dX8_hasAsMany_79 ?_
  refine V_goto (tgt := 3) dX8_hasAsMany_82 (by decide) ?_
  exact V_sub [1, 2, 3, 4, 0] rfl h
theorem eX8_hasAsMany {X : Cx} {v2 : Int} {v3 : Int} {σ : Sg} {Q : Int → Sg → Prop} (h : GX8_hasAsMany_0 X v2 v3 σ Q) : KX8_hasAsMany X v2 v3 σ Q := V_enter (by decide) (Nat.le_of_ble_eq_true rfl) rfl h
def GX8_part_0 (X : Cx) (v2 : Int) (σ : Sg) (Q : Int → Sg → Prop) : Prop := VV X mX8_part 0 [(0, .ref (cxA X 57)), (1, .ref (cxA X 1)), (2, .int (gI v2))] [] σ Q
def GX8_part_20 (X : Cx) (v2 : Int) (v3 : Int) (v4 : Int) (σ : Sg) (Q : Int → Sg → Prop) : Prop := VV X mX8_part 20 [(0, .ref (cxA X 57)), (1, .ref (cxA X 1)), (2, .int (gI v2)), (3, .int (gI v3)), (4, .int (gI v4))] [] σ Q
def GX8_part_39 (X : Cx) (v2 : Int) (v3 : Int) (v4 : Int) (v5 : Int) (σ : Sg) (Q : Int → Sg → Prop) : Prop := VV X mX8_part 39 [(0, .ref (cxA X 57)), (1, .ref (cxA X 1)), (2, .int (gI v2)), (3, .int (gI v3)), (4, .int (gI v4)), (5, .int (gI v5))] [] σ Q
def GX8_part_109 (X : Cx) (v2 : Int) (v3 : Int) (v4 : Int) (v5 : Int) (σ : Sg) (Q : Int → Sg → Prop) : Prop := VV X mX8_part 109 [(0, .ref (cxA X 57)), (1, .ref (cxA X 1)), (2, .int (gI v2)), (3, .int (gI v3)), (4, .int (gI v4)), (5, .int (gI v5))] [] σ Q
def GX8_part_115 (X : Cx) (v2 : Int) (v3 : Int) (v4 : Int) (v5 : Int) (σ : Sg) (Q : Int → Sg → Prop) : Prop := VV X mX8_part 115 [(0, .ref (cxA X 57)), (1, .ref (cxA X 1)), (2, .int (gI v2)), (3, .int (gI v3)), (4, .int (gI v4)), (5, .int (gI v5))] [] σ Q
set_option maxHeartbeats 2000000 in
set_option maxRecDepth 20000 in
theorem rX8_part_0 {X : Cx} {v2 : Int} {σ : Sg} {Q : Int → Sg → Prop} (h : Rng σ → GX8_part_20 X v2 0 0 (cpy8 σ 58 60) Q) : GX8_part_0 X v2 σ Q := by
  unfold GX8_part_0
  refine V_rng (fun hR0 => ?_)
  have h := h hR0
  refine V_aload_n 0 rfl rfl dX8_part_0 ?_
  refine V_getR (f := 0) ci_X8 sh_57 rfl (by decide) (c1 := 58) rfl dX8_part_1 lk_RX8_f9 ?_
  refine V_iconst dX8_part_4 ?_
  refine V_aload_n 0 rfl rfl dX8_part_5 ?_
  refine V_getR (f := 2) ci_X8 sh_57 rfl (by decide) (c1 := 60) rfl dX8_part_6 lk_RX8_f18 ?_
  refine V_iconst dX8_part_9 ?_
  refine V_bipush (v := 8) (by decide) dX8_part_10 ?_
  refine V_copy8 sh_58 sh_60 dX8_part_12 lk_RX8_m45 (by decide) (Nat.le_of_ble_eq_true rfl) ?_
  refine V_iconst dX8_part_15 ?_
  refine V_istore_n (L' := [(3, .int (gI 0)), (0, .ref (cxA X 57)), (1, .ref (cxA X 1)), (2, .int (gI v2))]) rfl (by decide) rfl dX8_part_16 ?_
  refine V_iconst dX8_part_17 ?_
  refine V_istore (L' := [(4, .int (gI 0)), (3, .int (gI 0)), (0, .ref (cxA X 57)), (1, .ref (cxA X 1)), (2, .int (gI v2))]) (by decide) rfl dX8_part_18 ?_
  exact V_sub [2, 3, 4, 1, 0] rfl h
set_option maxHeartbeats 2000000 in
set_option maxRecDepth 20000 in
theorem rX8_part_20 {X : Cx} {v2 : Int} {v3 : Int} {v4 : Int} {σ : Sg} {Q : Int → Sg → Prop} (h : Rng σ → (inI v4) ∧ (((σ 1 1) ≤ v4 → (v3 = 0 ∨ v3 = 1) ∧ Q v3 σ) ∧ (v4 < (σ 1 1) → (inI v4) ∧ ((8 ≤ v4 → (v3 = 0 ∨ v3 = 1) ∧ Q v3 σ) ∧ (v4 < 8 → GX8_part_39 X v2 v3 v4 0 σ Q))))) : GX8_part_20 X v2 v3 v4 σ Q := by
  unfold GX8_part_20
  refine V_rng (fun hR0 => ?_)
  have h := h hR0
  refine V_iload 4 rfl dX8_part_20 ?_
  refine V_aload_n 1 rfl rfl dX8_part_22 ?_
  refine V_getI (f := 1) ci_X5 sh_1 rfl (by decide) dX8_part_23 lk_RX8_f21 ?_
  obtain ⟨g1, h⟩ := h
  refine V_icmp_ge (tgt := 121) dX8_part_26 (by decide) g1 (show inI (σ 1 1) from (inI_sh hR0 sh_1 (by decide))) (fun q2 => ?_) (fun q2 => ?_)
  · have h := h.1 q2
    refine V_iload_n 3 rfl rfl dX8_part_121 ?_
    obtain ⟨g3, h⟩ := h
    exact V_iret rfl (fun _ q => by cases q) (nar_Z g3).1 dX8_part_122 h
  · have h := h.2 q2
    refine V_iload 4 rfl dX8_part_29 ?_
    refine V_bipush (v := 8) (by decide) dX8_part_31 ?_
    obtain ⟨g4, h⟩ := h
    refine V_icmp_ge (tgt := 121) dX8_part_33 (by decide) g4 (by decide) (fun q5 => ?_) (fun q5 => ?_)
    · have h := h.1 q5
      refine V_iload_n 3 rfl rfl dX8_part_121 ?_
      obtain ⟨g6, h⟩ := h
      exact V_iret rfl (fun _ q => by cases q) (nar_Z g6).1 dX8_part_122 h
    · have h := h.2 q5
      refine V_iconst dX8_part_36 ?_
      refine V_istore (L' := [(5, .int (gI 0)), (0, .ref (cxA X 57)), (1, .ref (cxA X 1)), (2, .int (gI v2)), (3, .int (gI v3)), (4, .int (gI v4))]) (by decide) rfl dX8_part_37 ?_
      exact V_sub [1, 2, 3, 4, 5, 0] rfl h
set_option maxHeartbeats 2000000 in
set_option maxRecDepth 20000 in
theorem rX8_part_39 {X : Cx} {v2 : Int} {v3 : Int} {v4 : Int} {v5 : Int} {σ : Sg} {Q : Int → Sg → Prop} (h : Rng σ → (inI v5) ∧ (((σ 1 1) ≤ v5 → GX8_part_115 X v2 v3 v4 v5 σ Q) ∧ (v5 < (σ 1 1) → (inI v5) ∧ ((8 ≤ v5 → GX8_part_115 X v2 v3 v4 v5 σ Q) ∧ (v5 < 8 → (0 ≤ v4 ∧ v4 < 8) ∧ ((¬ (zand (zshr (σ 60 v4.toNat) v5) 1) = 1 → GX8_part_109 X v2 v3 v4 v5 σ Q) ∧ ((zand (zshr (σ 60 v4.toNat) v5) 1) = 1 → KX8_hasAsMany X v4 v5 σ (fun r7 σ8 => Rng σ8 → (inI r7) ∧ ((¬ r7 = 0 → GX8_part_109 X v2 v3 v4 v5 σ8 Q) ∧ (r7 = 0 → (0 ≤ v4 ∧ v4 < 8) ∧ (0 ≤ v4 ∧ v4 < 8) ∧ (0 ≤ v4 ∧ v4 < 8) ∧ (inI v2) ∧ GX8_part_109 X v2 1 v4 v5 (up2 (up2 σ8 58 v4.toNat (zand (σ8 58 v4.toNat) (zxor (zshl 1 v5) ((-1))))) 59 v4.toNat v2) Q)))))))))) : GX8_part_39 X v2 v3 v4 v5 σ Q := by
  unfold GX8_part_39
  refine V_rng (fun hR0 => ?_)
  have h := h hR0
  refine V_iload 5 rfl dX8_part_39 ?_
  refine V_aload_n 1 rfl rfl dX8_part_41 ?_
  refine V_getI (f := 1) ci_X5 sh_1 rfl (by decide) dX8_part_42 lk_RX8_f21 ?_
  obtain ⟨g1, h⟩ := h
  refine V_icmp_ge (tgt := 115) dX8_part_45 (by decide) g1 (show inI (σ 1 1) from (inI_sh hR0 sh_1 (by decide))) (fun q2 => ?_) (fun q2 => ?_)
  · have h := h.1 q2
    exact h
  · have h := h.2 q2
    refine V_iload 5 rfl dX8_part_48 ?_
    refine V_bipush (v := 8) (by decide) dX8_part_50 ?_
    obtain ⟨g3, h⟩ := h
    refine V_icmp_ge (tgt := 115) dX8_part_52 (by decide) g3 (by decide) (fun q4 => ?_) (fun q4 => ?_)
    · have h := h.1 q4
      exact h
    · have h := h.2 q4
      refine V_aload_n 0 rfl rfl dX8_part_55 ?_
      refine V_getR (f := 2) ci_X8 sh_57 rfl (by decide) (c1 := 60) rfl dX8_part_56 lk_RX8_f18 ?_
      refine V_iload 4 rfl dX8_part_59 ?_
      obtain ⟨g5, h⟩ := h
      refine V_iald sh_60 (by decide) g5 dX8_part_61 ?_
      refine V_iload 5 rfl dX8_part_62 ?_
      refine V_ishr dX8_part_64 ?_
      refine V_iconst dX8_part_65 ?_
      refine V_iand dX8_part_66 ?_
      refine V_iconst dX8_part_67 ?_
      refine V_icmp_ne (tgt := 109) dX8_part_68 (by decide) (inI_z _) (by decide) (fun q6 => ?_) (fun q6 => ?_)
      · have h := h.1 q6
        exact h
      · have h := h.2 q6
        refine V_aload_n 0 rfl rfl dX8_part_71 ?_
        refine V_aload_n 1 rfl rfl dX8_part_72 ?_
        refine V_iload 4 rfl dX8_part_73 ?_
        refine V_iload 5 rfl dX8_part_75 ?_
        refine V_cV (M' := mX8_hasAsMany) (As := [.ref (cxA X 1), .int (gI v4), .int (gI v5)]) (fun r => [.int (gI r)]) ok_X8_hasAsMany ok2_X8_hasAsMany sh_57 rfl (by decide) rfl rfl (Nat.le_of_ble_eq_true rfl) dX8_part_77 lk_RX8_m51 (by decide) (fun _ => rfl) h (fun r7 σ8 h => ?_)
        refine V_rng (fun hR9 => ?_)
        have h := h hR9
        obtain ⟨g10, h⟩ := h
        refine V_if_ne (tgt := 109) dX8_part_80 (by decide) g10 (fun q11 => ?_) (fun q11 => ?_)
        · have h := h.1 q11
          exact h
        · have h := h.2 q11
          refine V_aload_n 0 rfl rfl dX8_part_83 ?_
          refine V_getR (f := 0) ci_X8 sh_57 rfl (by decide) (c1 := 58) rfl dX8_part_84 lk_RX8_f9 ?_
          refine V_iload 4 rfl dX8_part_87 ?_
          refine V_dup2 rfl rfl dX8_part_89 ?_
          obtain ⟨g12, h⟩ := h
          refine V_iald sh_58 (by decide) g12 dX8_part_90 ?_
          refine V_iconst dX8_part_91 ?_
          refine V_iload 5 rfl dX8_part_92 ?_
          refine V_ishl dX8_part_94 ?_
          refine V_iconst dX8_part_95 ?_
          refine V_ixor dX8_part_96 ?_
          refine V_iand dX8_part_97 ?_
          obtain ⟨g13, h⟩ := h
          refine V_iast sh_58 (by decide) g13 (inI_z _) dX8_part_98 ?_
          refine V_aload_n 0 rfl rfl dX8_part_99 ?_
          refine V_getR (f := 1) ci_X8 sh_57 rfl (by decide) (c1 := 59) rfl dX8_part_100 lk_RX8_f15 ?_
          refine V_iload 4 rfl dX8_part_103 ?_
          refine V_iload_n 2 rfl rfl dX8_part_105 ?_
          obtain ⟨g14, h⟩ := h
          obtain ⟨g15, h⟩ := h
          refine V_iast sh_59 (by decide) g14 g15 dX8_part_106 ?_
          refine V_iconst dX8_part_107 ?_
          refine V_istore_n (L' := [(3, .int (gI 1)), (0, .ref (cxA X 57)), (1, .ref (cxA X 1)), (2, .int (gI v2)), (4, .int (gI v4)), (5, .int (gI v5))]) rfl (by decide) rfl dX8_part_108 ?_
          exact V_sub [1, 2, 3, 0, 4, 5] rfl h
set_option maxHeartbeats 2000000 in
set_option maxRecDepth 20000 in
theorem rX8_part_109 {X : Cx} {v2 : Int} {v3 : Int} {v4 : Int} {v5 : Int} {σ : Sg} {Q : Int → Sg → Prop} (h : Rng σ → GX8_part_39 X v2 v3 v4 (v5 + 1) σ Q) : GX8_part_109 X v2 v3 v4 v5 σ Q := by
  unfold GX8_part_109
  refine V_rng (fun hR0 => ?_)
  have h := h hR0
  refine V_iinc (L' := [(5, .int (gI (v5 + 1))), (0, .ref (cxA X 57)), (1, .ref (cxA X 1)), (2, .int (gI v2)), (3, .int (gI v3)), (4, .int (gI v4))]) 5 rfl (by decide) rfl dX8_part_109 ?_
  refine V_goto (tgt := 39) dX8_part_112 (by decide) ?_
  exact V_sub [1, 2, 3, 4, 5, 0] rfl h
set_option maxHeartbeats 2000000 in
set_option maxRecDepth 20000 in
theorem rX8_part_115 {X : Cx} {v2 : Int} {v3 : Int} {v4 : Int} {v5 : Int} {σ : Sg} {Q : Int → Sg → Prop} (h : Rng σ → GX8_part_20 X v2 v3 (v4 + 1) σ Q) : GX8_part_115 X v2 v3 v4 v5 σ Q := by
  unfold GX8_part_115
  refine V_rng (fun hR0 => ?_)
  have h := h hR0
  refine V_iinc (L' := [(4, .int (gI (v4 + 1))), (0, .ref (cxA X 57)), (1, .ref (cxA X 1)), (2, .int (gI v2)), (3, .int (gI v3)), (5, .int (gI v5))]) 4 rfl (by decide) rfl dX8_part_115 ?_
  refine V_goto (tgt := 20) dX8_part_118 (by decide) ?_
  exact V_sub [1, 2, 3, 4, 0] rfl h
theorem eX8_part {X : Cx} {v2 : Int} {σ : Sg} {Q : Int → Sg → Prop} (h : GX8_part_0 X v2 σ Q) : KX8_part X v2 σ Q := V_enter (by decide) (Nat.le_of_ble_eq_true rfl) rfl h
def GX8_find_0 (X : Cx) (σ : Sg) (Q : Int → Sg → Prop) : Prop := VV X mX8_find 0 [(0, .ref (cxA X 57)), (1, .ref (cxA X 1))] [] σ Q
def GX8_find_2 (X : Cx) (v2 : Int) (σ : Sg) (Q : Int → Sg → Prop) : Prop := VV X mX8_find 2 [(0, .ref (cxA X 57)), (1, .ref (cxA X 1)), (2, .int (gI v2))] [] σ Q
def GX8_find_40 (X : Cx) (v2 : Int) (σ : Sg) (Q : Int → Sg → Prop) : Prop := VV X mX8_find 40 [(0, .ref (cxA X 57)), (1, .ref (cxA X 1)), (2, .int (gI v2))] [] σ Q
def GX8_find_42 (X : Cx) (v2 : Int) (σ : Sg) (Q : Int → Sg → Prop) : Prop := VV X mX8_find 42 [(0, .ref (cxA X 57)), (1, .ref (cxA X 1)), (2, .int (gI v2))] [] σ Q
set_option maxHeartbeats 2000000 in
set_option maxRecDepth 20000 in
theorem rX8_find_0 {X : Cx} {σ : Sg} {Q : Int → Sg → Prop} (h : Rng σ → GX8_find_2 X 0 σ Q) : GX8_find_0 X σ Q := by
  unfold GX8_find_0
  refine V_rng (fun hR0 => ?_)
  have h := h hR0
  refine V_iconst dX8_find_0 ?_
  refine V_istore_n (L' := [(2, .int (gI 0)), (0, .ref (cxA X 57)), (1, .ref (cxA X 1))]) rfl (by decide) rfl dX8_find_1 ?_
  exact V_sub [1, 2, 0] rfl h
set_option maxHeartbeats 2000000 in
set_option maxRecDepth 20000 in
theorem rX8_find_2 {X : Cx} {v2 : Int} {σ : Sg} {Q : Int → Sg → Prop} (h : Rng σ → (inI v2) ∧ (((σ 1 1) ≤ v2 → GX8_find_40 X v2 σ Q) ∧ (v2 < (σ 1 1) → (inI v2) ∧ ((8 ≤ v2 → GX8_find_40 X v2 σ Q) ∧ (v2 < 8 → KX8_looksLike X v2 σ (fun r5 σ6 => Rng σ6 → (0 ≤ v2 ∧ v2 < 8) ∧ (inI r5) ∧ (0 ≤ v2 ∧ v2 < 8) ∧ GX8_find_2 X (v2 + 1) (up2 (up2 σ6 58 v2.toNat r5) 59 v2.toNat 0) Q)))))) : GX8_find_2 X v2 σ Q := by
  unfold GX8_find_2
  refine V_rng (fun hR0 => ?_)
  have h := h hR0
  refine V_iload_n 2 rfl rfl dX8_find_2 ?_
  refine V_aload_n 1 rfl rfl dX8_find_3 ?_
  refine V_getI (f := 1) ci_X5 sh_1 rfl (by decide) dX8_find_4 lk_RX8_f21 ?_
  obtain ⟨g1, h⟩ := h
  refine V_icmp_ge (tgt := 40) dX8_find_7 (by decide) g1 (show inI (σ 1 1) from (inI_sh hR0 sh_1 (by decide))) (fun q2 => ?_) (fun q2 => ?_)
  · have h := h.1 q2
    exact h
  · have h := h.2 q2
    refine V_iload_n 2 rfl rfl dX8_find_10 ?_
    refine V_bipush (v := 8) (by decide) dX8_find_11 ?_
    obtain ⟨g3, h⟩ := h
    refine V_icmp_ge (tgt := 40) dX8_find_13 (by decide) g3 (by decide) (fun q4 => ?_) (fun q4 => ?_)
    · have h := h.1 q4
      exact h
    · have h := h.2 q4
      refine V_aload_n 0 rfl rfl dX8_find_16 ?_
      refine V_getR (f := 0) ci_X8 sh_57 rfl (by decide) (c1 := 58) rfl dX8_find_17 lk_RX8_f9 ?_
      refine V_iload_n 2 rfl rfl dX8_find_20 ?_
      refine V_aload_n 1 rfl rfl dX8_find_21 ?_
      refine V_iload_n 2 rfl rfl dX8_find_22 ?_
      refine V_cS (M' := mX8_looksLike) (As := [.ref (cxA X 1), .int (gI v2)]) (fun r => [.int (gI r), .int (gI v2), .ref (cxA X 58)]) ok_X8_looksLike ok2_X8_looksLike rfl rfl (Nat.le_of_ble_eq_true rfl) dX8_find_23 lk_RX8_m27 (by decide) (fun _ => rfl) h (fun r5 σ6 h => ?_)
      refine V_rng (fun hR7 => ?_)
      have h := h hR7
      obtain ⟨g8, h⟩ := h
      obtain ⟨g9, h⟩ := h
      refine V_iast sh_58 (by decide) g8 g9 dX8_find_26 ?_
      refine V_aload_n 0 rfl rfl dX8_find_27 ?_
      refine V_getR (f := 1) ci_X8 sh_57 rfl (by decide) (c1 := 59) rfl dX8_find_28 lk_RX8_f15 ?_
      refine V_iload_n 2 rfl rfl dX8_find_31 ?_
      refine V_iconst dX8_find_32 ?_
      obtain ⟨g10, h⟩ := h
      refine V_iast sh_59 (by decide) g10 (by decide) dX8_find_33 ?_
      refine V_iinc (L' := [(2, .int (gI (v2 + 1))), (0, .ref (cxA X 57)), (1, .ref (cxA X 1))]) 2 rfl (by decide) rfl dX8_find_34 ?_
      refine V_goto (tgt := 2) dX8_find_37 (by decide) ?_
      exact V_sub [1, 2, 0] rfl h
set_option maxHeartbeats 2000000 in
set_option maxRecDepth 20000 in
theorem rX8_find_40 {X : Cx} {v2 : Int} {σ : Sg} {Q : Int → Sg → Prop} (h : Rng σ → GX8_find_42 X 1 σ Q) : GX8_find_40 X v2 σ Q := by
  unfold GX8_find_40
  refine V_rng (fun hR0 => ?_)
  have h := h hR0
  refine V_iconst dX8_find_40 ?_
  refine V_istore_n (L' := [(2, .int (gI 1)), (0, .ref (cxA X 57)), (1, .ref (cxA X 1))]) rfl (by decide) rfl dX8_find_41 ?_
  exact V_sub [1, 2, 0] rfl h
set_option maxHeartbeats 2000000 in
set_option maxRecDepth 20000 in
theorem rX8_find_42 {X : Cx} {v2 : Int} {σ : Sg} {Q : Int → Sg → Prop} (h : Rng σ → (inI v2) ∧ ((8 < v2 → Q 0 σ) ∧ (v2 ≤ 8 → KX8_part X v2 σ (fun r3 σ4 => Rng σ4 → (inI r3) ∧ ((¬ r3 = 0 → GX8_find_42 X (v2 + 1) σ4 Q) ∧ (r3 = 0 → Q 0 σ4)))))) : GX8_find_42 X v2 σ Q := by
  unfold GX8_find_42
  refine V_rng (fun hR0 => ?_)
  have h := h hR0
  refine V_iload_n 2 rfl rfl dX8_find_42 ?_
  refine V_bipush (v := 8) (by decide) dX8_find_43 ?_
  obtain ⟨g1, h⟩ := h
  refine V_icmp_gt (tgt := 64) dX8_find_45 (by decide) g1 (by decide) (fun q2 => ?_) (fun q2 => ?_)
  · have h := h.1 q2
    exact V_vret rfl dX8_find_64 h
  · have h := h.2 q2
    refine V_aload_n 0 rfl rfl dX8_find_48 ?_
    refine V_aload_n 1 rfl rfl dX8_find_49 ?_
    refine V_iload_n 2 rfl rfl dX8_find_50 ?_
    refine V_cV (M' := mX8_part) (As := [.ref (cxA X 1), .int (gI v2)]) (fun r => [.int (gI r)]) ok_X8_part ok2_X8_part sh_57 rfl (by decide) rfl rfl (Nat.le_of_ble_eq_true rfl) dX8_find_51 lk_RX8_m31 (by decide) (fun _ => rfl) h (fun r3 σ4 h => ?_)
    refine V_rng (fun hR5 => ?_)
    have h := h hR5
    obtain ⟨g6, h⟩ := h
    refine V_if_ne (tgt := 58) dX8_find_54 (by decide) g6 (fun q7 => ?_) (fun q7 => ?_)
    · have h := h.1 q7
      refine V_iinc (L' := [(2, .int (gI (v2 + 1))), (0, .ref (cxA X 57)), (1, .ref (cxA X 1))]) 2 rfl (by decide) rfl dX8_find_58 ?_
      refine V_goto (tgt := 42) dX8_find_61 (by decide) ?_
      exact V_sub [1, 2, 0] rfl h
    · have h := h.2 q7
      exact V_vret rfl dX8_find_57 h
theorem eX8_find {X : Cx} {σ : Sg} {Q : Int → Sg → Prop} (h : GX8_find_0 X σ Q) : KX8_find X σ Q := V_enter (by decide) (Nat.le_of_ble_eq_true rfl) rfl h
def GX8_sorts_0 (X : Cx) (v1 : Int) (σ : Sg) (Q : Int → Sg → Prop) : Prop := VV X mX8_sorts 0 [(0, .ref (cxA X 57)), (1, .int (gI v1))] [] σ Q
def GX8_sorts_4 (X : Cx) (v1 : Int) (v2 : Int) (v3 : Int) (σ : Sg) (Q : Int → Sg → Prop) : Prop := VV X mX8_sorts 4 [(0, .ref (cxA X 57)), (1, .int (gI v1)), (2, .int (gI v2)), (3, .int (gI v3))] [] σ Q
def GX8_sorts_31 (X : Cx) (v1 : Int) (v2 : Int) (v3 : Int) (σ : Sg) (Q : Int → Sg → Prop) : Prop := VV X mX8_sorts 31 [(0, .ref (cxA X 57)), (1, .int (gI v1)), (2, .int (gI v2)), (3, .int (gI v3))] [] σ Q
set_option maxHeartbeats 2000000 in
set_option maxRecDepth 20000 in
theorem rX8_sorts_0 {X : Cx} {v1 : Int} {σ : Sg} {Q : Int → Sg → Prop} (h : Rng σ → GX8_sorts_4 X v1 0 0 σ Q) : GX8_sorts_0 X v1 σ Q := by
  unfold GX8_sorts_0
  refine V_rng (fun hR0 => ?_)
  have h := h hR0
  refine V_iconst dX8_sorts_0 ?_
  refine V_istore_n (L' := [(2, .int (gI 0)), (0, .ref (cxA X 57)), (1, .int (gI v1))]) rfl (by decide) rfl dX8_sorts_1 ?_
  refine V_iconst dX8_sorts_2 ?_
  refine V_istore_n (L' := [(3, .int (gI 0)), (2, .int (gI 0)), (0, .ref (cxA X 57)), (1, .int (gI v1))]) rfl (by decide) rfl dX8_sorts_3 ?_
  exact V_sub [2, 3, 1, 0] rfl h
set_option maxHeartbeats 2000000 in
set_option maxRecDepth 20000 in
theorem rX8_sorts_4 {X : Cx} {v1 : Int} {v2 : Int} {v3 : Int} {σ : Sg} {Q : Int → Sg → Prop} (h : Rng σ → (inI v3) ∧ (inI v1) ∧ ((v1 ≤ v3 → Q v2 σ) ∧ (v3 < v1 → (inI v3) ∧ ((8 ≤ v3 → Q v2 σ) ∧ (v3 < 8 → (0 ≤ v3 ∧ v3 < 8) ∧ KJ6_numberOfTrailingZeros_0f7a4 X (σ 58 v3.toNat) σ (fun r7 σ8 => Rng σ8 → (inI r7) ∧ (inI v3) ∧ ((¬ r7 = v3 → GX8_sorts_31 X v1 v2 v3 σ8 Q) ∧ (r7 = v3 → GX8_sorts_31 X v1 (v2 + 1) v3 σ8 Q)))))))) : GX8_sorts_4 X v1 v2 v3 σ Q := by
  unfold GX8_sorts_4
  refine V_rng (fun hR0 => ?_)
  have h := h hR0
  refine V_iload_n 3 rfl rfl dX8_sorts_4 ?_
  refine V_iload_n 1 rfl rfl dX8_sorts_5 ?_
  obtain ⟨g1, h⟩ := h
  obtain ⟨g2, h⟩ := h
  refine V_icmp_ge (tgt := 37) dX8_sorts_6 (by decide) g1 g2 (fun q3 => ?_) (fun q3 => ?_)
  · have h := h.1 q3
    refine V_iload_n 2 rfl rfl dX8_sorts_37 ?_
    exact V_iret rfl (fun _ q => by cases q) (vp_nar_int _) dX8_sorts_38 h
  · have h := h.2 q3
    refine V_iload_n 3 rfl rfl dX8_sorts_9 ?_
    refine V_bipush (v := 8) (by decide) dX8_sorts_10 ?_
    obtain ⟨g4, h⟩ := h
    refine V_icmp_ge (tgt := 37) dX8_sorts_12 (by decide) g4 (by decide) (fun q5 => ?_) (fun q5 => ?_)
    · have h := h.1 q5
      refine V_iload_n 2 rfl rfl dX8_sorts_37 ?_
      exact V_iret rfl (fun _ q => by cases q) (vp_nar_int _) dX8_sorts_38 h
    · have h := h.2 q5
      refine V_aload_n 0 rfl rfl dX8_sorts_15 ?_
      refine V_getR (f := 0) ci_X8 sh_57 rfl (by decide) (c1 := 58) rfl dX8_sorts_16 lk_RX8_f9 ?_
      refine V_iload_n 3 rfl rfl dX8_sorts_19 ?_
      obtain ⟨g6, h⟩ := h
      refine V_iald sh_58 (by decide) g6 dX8_sorts_20 ?_
      refine V_cS (M' := mJ6_numberOfTrailingZeros_0f7a4) (As := [.int (gI (σ 58 v3.toNat))]) (fun r => [.int (gI r)]) ok_J6_numberOfTrailingZeros_0f7a4 ok2_J6_numberOfTrailingZeros_0f7a4 rfl rfl (Nat.le_of_ble_eq_true rfl) dX8_sorts_21 lk_RX8_m35 (by decide) (fun _ => rfl) h (fun r7 σ8 h => ?_)
      refine V_rng (fun hR9 => ?_)
      have h := h hR9
      refine V_iload_n 3 rfl rfl dX8_sorts_24 ?_
      obtain ⟨g10, h⟩ := h
      obtain ⟨g11, h⟩ := h
      refine V_icmp_ne (tgt := 31) dX8_sorts_25 (by decide) g10 g11 (fun q12 => ?_) (fun q12 => ?_)
      · have h := h.1 q12
        exact h
      · have h := h.2 q12
        refine V_iinc (L' := [(2, .int (gI (v2 + 1))), (0, .ref (cxA X 57)), (1, .int (gI v1)), (3, .int (gI v3))]) 2 rfl (by decide) rfl dX8_sorts_28 ?_
        exact V_sub [1, 2, 0, 3] rfl h
set_option maxHeartbeats 2000000 in
set_option maxRecDepth 20000 in
theorem rX8_sorts_31 {X : Cx} {v1 : Int} {v2 : Int} {v3 : Int} {σ : Sg} {Q : Int → Sg → Prop} (h : Rng σ → GX8_sorts_4 X v1 v2 (v3 + 1) σ Q) : GX8_sorts_31 X v1 v2 v3 σ Q := by
  unfold GX8_sorts_31
  refine V_rng (fun hR0 => ?_)
  have h := h hR0
  refine V_iinc (L' := [(3, .int (gI (v3 + 1))), (0, .ref (cxA X 57)), (1, .int (gI v1)), (2, .int (gI v2))]) 3 rfl (by decide) rfl dX8_sorts_31 ?_
  refine V_goto (tgt := 4) dX8_sorts_34 (by decide) ?_
  exact V_sub [1, 2, 3, 0] rfl h
theorem eX8_sorts {X : Cx} {v1 : Int} {σ : Sg} {Q : Int → Sg → Prop} (h : GX8_sorts_0 X v1 σ Q) : KX8_sorts X v1 σ Q := V_enter (by decide) (Nat.le_of_ble_eq_true rfl) rfl h
