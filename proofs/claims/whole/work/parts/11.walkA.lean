/-! printed by program: X10_isKnown X11_isWithin X5_has X10_parts X10_numbers X5_all X5_thoseWith X5_thoseMarked X5_named X5_thoseLinked X5_greatestSize X5_ofSize X5_leastSize X5_leftmost X5_turned X10_firstLike X10_lastLike X10_join X5_isLook X5_isTaken X5_add X5_isTied X5_addTie X10_isSpelt X10_spelt X10_areWords -/
def GX10_isKnown_0 (X : Cx) (v0 : Int) (v1 : Int) (σ : Sg) (Q : Int → Sg → Prop) : Prop := VV X mX10_isKnown 0 [(0, .int (gI v0)), (1, .int (gI v1))] [] σ Q
set_option maxHeartbeats 2000000 in
set_option maxRecDepth 20000 in
theorem rX10_isKnown_0 {X : Cx} {v0 : Int} {v1 : Int} {σ : Sg} {Q : Int → Sg → Prop} (h : Rng σ → ((¬ (zand (zshr v0 v1) 1) = 1 → Q 0 σ) ∧ ((zand (zshr v0 v1) 1) = 1 → Q 1 σ))) : GX10_isKnown_0 X v0 v1 σ Q := by
  unfold GX10_isKnown_0
  refine V_rng (fun hR0 => ?_)
  have h := h hR0
  refine V_iload_n 0 rfl rfl dX10_isKnown_0 ?_
  refine V_iload_n 1 rfl rfl dX10_isKnown_1 ?_
  refine V_ishr dX10_isKnown_2 ?_
  refine V_iconst dX10_isKnown_3 ?_
  refine V_iand dX10_isKnown_4 ?_
  refine V_iconst dX10_isKnown_5 ?_
  refine V_icmp_ne (tgt := 13) dX10_isKnown_6 (by decide) (inI_z _) (by decide) (fun q1 => ?_) (fun q1 => ?_)
  · have h := h.1 q1
    refine V_iconst dX10_isKnown_13 ?_
    exact V_iret rfl (fun _ q => by cases q) (by decide) dX10_isKnown_14 h
  · have h := h.2 q1
    refine V_iconst dX10_isKnown_9 ?_
    refine V_goto (tgt := 14) dX10_isKnown_10 (by decide) ?_
    exact V_iret rfl (fun _ q => by cases q) (by decide) dX10_isKnown_14 h
theorem eX10_isKnown {X : Cx} {v0 : Int} {v1 : Int} {σ : Sg} {Q : Int → Sg → Prop} (h : GX10_isKnown_0 X v0 v1 σ Q) : KX10_isKnown X v0 v1 σ Q := V_enter (by decide) (Nat.le_of_ble_eq_true rfl) rfl h
def GX11_isWithin_0 (X : Cx) (v0 : Int) (v1 : Int) (σ : Sg) (Q : Int → Sg → Prop) : Prop := VV X mX11_isWithin 0 [(0, .int (gI v0)), (1, .int (gI v1))] [] σ Q
set_option maxHeartbeats 2000000 in
set_option maxRecDepth 20000 in
theorem rX11_isWithin_0 {X : Cx} {v0 : Int} {v1 : Int} {σ : Sg} {Q : Int → Sg → Prop} (h : Rng σ → (inI v0) ∧ ((v0 < 0 → Q 0 σ) ∧ (0 ≤ v0 → (inI v0) ∧ (inI v1) ∧ ((v1 ≤ v0 → Q 0 σ) ∧ (v0 < v1 → Q 1 σ))))) : GX11_isWithin_0 X v0 v1 σ Q := by
  unfold GX11_isWithin_0
  refine V_rng (fun hR0 => ?_)
  have h := h hR0
  refine V_iload_n 0 rfl rfl dX11_isWithin_0 ?_
  obtain ⟨g1, h⟩ := h
  refine V_if_lt (tgt := 13) dX11_isWithin_1 (by decide) g1 (fun q2 => ?_) (fun q2 => ?_)
  · have h := h.1 q2
    refine V_iconst dX11_isWithin_13 ?_
    exact V_iret rfl (fun _ q => by cases q) (by decide) dX11_isWithin_14 h
  · have h := h.2 q2
    refine V_iload_n 0 rfl rfl dX11_isWithin_4 ?_
    refine V_iload_n 1 rfl rfl dX11_isWithin_5 ?_
    obtain ⟨g3, h⟩ := h
    obtain ⟨g4, h⟩ := h
    refine V_icmp_ge (tgt := 13) dX11_isWithin_6 (by decide) g3 g4 (fun q5 => ?_) (fun q5 => ?_)
    · have h := h.1 q5
      refine V_iconst dX11_isWithin_13 ?_
      exact V_iret rfl (fun _ q => by cases q) (by decide) dX11_isWithin_14 h
    · have h := h.2 q5
      refine V_iconst dX11_isWithin_9 ?_
      refine V_goto (tgt := 14) dX11_isWithin_10 (by decide) ?_
      exact V_iret rfl (fun _ q => by cases q) (by decide) dX11_isWithin_14 h
theorem eX11_isWithin {X : Cx} {v0 : Int} {v1 : Int} {σ : Sg} {Q : Int → Sg → Prop} (h : GX11_isWithin_0 X v0 v1 σ Q) : KX11_isWithin X v0 v1 σ Q := V_enter (by decide) (Nat.le_of_ble_eq_true rfl) rfl h
def GX5_has_0 (X : Cx) (v1 : Int) (σ : Sg) (Q : Int → Sg → Prop) : Prop := VV X mX5_has 0 [(0, .ref (cxA X 1)), (1, .int (gI v1))] [] σ Q
set_option maxHeartbeats 2000000 in
set_option maxRecDepth 20000 in
theorem rX5_has_0 {X : Cx} {v1 : Int} {σ : Sg} {Q : Int → Sg → Prop} (h : Rng σ → KX11_isWithin X v1 (σ 1 1) σ (fun r1 σ2 => Rng σ2 → (r1 = 0 ∨ r1 = 1) ∧ Q r1 σ2)) : GX5_has_0 X v1 σ Q := by
  unfold GX5_has_0
  refine V_rng (fun hR0 => ?_)
  have h := h hR0
  refine V_iload_n 1 rfl rfl dX5_has_0 ?_
  refine V_aload_n 0 rfl rfl dX5_has_1 ?_
  refine V_getI (f := 1) ci_X5 sh_1 rfl (by decide) dX5_has_2 lk_RX5_f27 ?_
  refine V_cN (M' := mX11_isWithin) (As := [.int (gI v1), .int (gI (σ 1 1))]) (fun r => [.int (gI r)]) ok_X11_isWithin ok2_X11_isWithin rfl rfl (Nat.le_of_ble_eq_true rfl) dX5_has_5 lk_RX5_m20 (by decide) (fun _ => rfl) h (fun r1 σ2 h => ?_)
  refine V_rng (fun hR3 => ?_)
  have h := h hR3
  obtain ⟨g4, h⟩ := h
  exact V_iret rfl (fun _ q => by cases q) (nar_Z g4).1 dX5_has_8 h
theorem eX5_has {X : Cx} {v1 : Int} {σ : Sg} {Q : Int → Sg → Prop} (h : GX5_has_0 X v1 σ Q) : KX5_has X v1 σ Q := V_enter (by decide) (Nat.le_of_ble_eq_true rfl) rfl h
def GX10_parts_0 (X : Cx) (v0 : Int) (σ : Sg) (Q : Int → Sg → Prop) : Prop := VV X mX10_parts 0 [(0, .int (gI v0))] [] σ Q
set_option maxHeartbeats 2000000 in
set_option maxRecDepth 20000 in
theorem rX10_parts_0 {X : Cx} {v0 : Int} {σ : Sg} {Q : Int → Sg → Prop} (h : Rng σ → KX11_isWithin X v0 15 σ (fun r1 σ2 => Rng σ2 → (inI r1) ∧ ((r1 = 0 → Q 0 σ2) ∧ (¬ r1 = 0 → (0 ≤ v0 ∧ v0 < 15) ∧ Q ((stv 3).getD v0.toNat 0) σ2)))) : GX10_parts_0 X v0 σ Q := by
  unfold GX10_parts_0
  refine V_rng (fun hR0 => ?_)
  have h := h hR0
  refine V_iload_n 0 rfl rfl dX10_parts_0 ?_
  refine V_bipush (v := 15) (by decide) dX10_parts_1 ?_
  refine V_cN (M' := mX11_isWithin) (As := [.int (gI v0), .int (gI 15)]) (fun r => [.int (gI r)]) ok_X11_isWithin ok2_X11_isWithin rfl rfl (Nat.le_of_ble_eq_true rfl) dX10_parts_3 lk_RX10_m12 (by decide) (fun _ => rfl) h (fun r1 σ2 h => ?_)
  refine V_rng (fun hR3 => ?_)
  have h := h hR3
  obtain ⟨g4, h⟩ := h
  refine V_if_eq (tgt := 17) dX10_parts_6 (by decide) g4 (fun q5 => ?_) (fun q5 => ?_)
  · have h := h.1 q5
    refine V_iconst dX10_parts_17 ?_
    exact V_iret rfl (fun _ q => by cases q) (vp_nar_int _) dX10_parts_18 h
  · have h := h.2 q5
    refine V_gets 3 (by decide) dX10_parts_9 lk_RX10_s20 ?_
    refine V_iload_n 0 rfl rfl dX10_parts_12 ?_
    obtain ⟨g6, h⟩ := h
    refine V_baldT 3 (by decide) g6 dX10_parts_13 ?_
    refine V_goto (tgt := 18) dX10_parts_14 (by decide) ?_
    exact V_iret rfl (fun _ q => by cases q) (vp_nar_int _) dX10_parts_18 h
theorem eX10_parts {X : Cx} {v0 : Int} {σ : Sg} {Q : Int → Sg → Prop} (h : GX10_parts_0 X v0 σ Q) : KX10_parts X v0 σ Q := V_enter (by decide) (Nat.le_of_ble_eq_true rfl) rfl h
def GX10_numbers_0 (X : Cx) (v0 : Int) (σ : Sg) (Q : Int → Sg → Prop) : Prop := VV X mX10_numbers 0 [(0, .int (gI v0))] [] σ Q
set_option maxHeartbeats 2000000 in
set_option maxRecDepth 20000 in
theorem rX10_numbers_0 {X : Cx} {v0 : Int} {σ : Sg} {Q : Int → Sg → Prop} (h : Rng σ → KX11_isWithin X v0 15 σ (fun r1 σ2 => Rng σ2 → (inI r1) ∧ ((r1 = 0 → Q 0 σ2) ∧ (¬ r1 = 0 → (0 ≤ v0 ∧ v0 < 15) ∧ Q ((stv 2).getD v0.toNat 0) σ2)))) : GX10_numbers_0 X v0 σ Q := by
  unfold GX10_numbers_0
  refine V_rng (fun hR0 => ?_)
  have h := h hR0
  refine V_iload_n 0 rfl rfl dX10_numbers_0 ?_
  refine V_bipush (v := 15) (by decide) dX10_numbers_1 ?_
  refine V_cN (M' := mX11_isWithin) (As := [.int (gI v0), .int (gI 15)]) (fun r => [.int (gI r)]) ok_X11_isWithin ok2_X11_isWithin rfl rfl (Nat.le_of_ble_eq_true rfl) dX10_numbers_3 lk_RX10_m12 (by decide) (fun _ => rfl) h (fun r1 σ2 h => ?_)
  refine V_rng (fun hR3 => ?_)
  have h := h hR3
  obtain ⟨g4, h⟩ := h
  refine V_if_eq (tgt := 17) dX10_numbers_6 (by decide) g4 (fun q5 => ?_) (fun q5 => ?_)
  · have h := h.1 q5
    refine V_iconst dX10_numbers_17 ?_
    exact V_iret rfl (fun _ q => by cases q) (vp_nar_int _) dX10_numbers_18 h
  · have h := h.2 q5
    refine V_gets 2 (by decide) dX10_numbers_9 lk_RX10_s16 ?_
    refine V_iload_n 0 rfl rfl dX10_numbers_12 ?_
    obtain ⟨g6, h⟩ := h
    refine V_baldT 2 (by decide) g6 dX10_numbers_13 ?_
    refine V_goto (tgt := 18) dX10_numbers_14 (by decide) ?_
    exact V_iret rfl (fun _ q => by cases q) (vp_nar_int _) dX10_numbers_18 h
theorem eX10_numbers {X : Cx} {v0 : Int} {σ : Sg} {Q : Int → Sg → Prop} (h : GX10_numbers_0 X v0 σ Q) : KX10_numbers X v0 σ Q := V_enter (by decide) (Nat.le_of_ble_eq_true rfl) rfl h
def GX5_all_0 (X : Cx) (σ : Sg) (Q : Int → Sg → Prop) : Prop := VV X mX5_all 0 [(0, .ref (cxA X 1))] [] σ Q
set_option maxHeartbeats 2000000 in
set_option maxRecDepth 20000 in
theorem rX5_all_0 {X : Cx} {σ : Sg} {Q : Int → Sg → Prop} (h : Rng σ → Q ((zshl 1 (σ 1 1)) - 1) σ) : GX5_all_0 X σ Q := by
  unfold GX5_all_0
  refine V_rng (fun hR0 => ?_)
  have h := h hR0
  refine V_iconst dX5_all_0 ?_
  refine V_aload_n 0 rfl rfl dX5_all_1 ?_
  refine V_getI (f := 1) ci_X5 sh_1 rfl (by decide) dX5_all_2 lk_RX5_f27 ?_
  refine V_ishl dX5_all_5 ?_
  refine V_iconst dX5_all_6 ?_
  refine V_isub dX5_all_7 ?_
  exact V_iret rfl (fun _ q => by cases q) (vp_nar_int _) dX5_all_8 h
theorem eX5_all {X : Cx} {σ : Sg} {Q : Int → Sg → Prop} (h : GX5_all_0 X σ Q) : KX5_all X σ Q := V_enter (by decide) (Nat.le_of_ble_eq_true rfl) rfl h
def GX5_thoseWith_0 (X : Cx) (v1 : Int) (v2 : Int) (σ : Sg) (Q : Int → Sg → Prop) : Prop := VV X mX5_thoseWith 0 [(0, .ref (cxA X 1)), (1, .int (gI v1)), (2, .int (gI v2))] [] σ Q
def GX5_thoseWith_5 (X : Cx) (v1 : Int) (v2 : Int) (v3 : Int) (v4 : Int) (σ : Sg) (Q : Int → Sg → Prop) : Prop := VV X mX5_thoseWith 5 [(0, .ref (cxA X 1)), (1, .int (gI v1)), (2, .int (gI v2)), (3, .int (gI v3)), (4, .int (gI v4))] [] σ Q
def GX5_thoseWith_41 (X : Cx) (v1 : Int) (v2 : Int) (v3 : Int) (v4 : Int) (σ : Sg) (Q : Int → Sg → Prop) : Prop := VV X mX5_thoseWith 41 [(0, .ref (cxA X 1)), (1, .int (gI v1)), (2, .int (gI v2)), (3, .int (gI v3)), (4, .int (gI v4))] [] σ Q
set_option maxHeartbeats 2000000 in
set_option maxRecDepth 20000 in
theorem rX5_thoseWith_0 {X : Cx} {v1 : Int} {v2 : Int} {σ : Sg} {Q : Int → Sg → Prop} (h : Rng σ → GX5_thoseWith_5 X v1 v2 0 0 σ Q) : GX5_thoseWith_0 X v1 v2 σ Q := by
  unfold GX5_thoseWith_0
  refine V_rng (fun hR0 => ?_)
  have h := h hR0
  refine V_iconst dX5_thoseWith_0 ?_
  refine V_istore_n (L' := [(3, .int (gI 0)), (0, .ref (cxA X 1)), (1, .int (gI v1)), (2, .int (gI v2))]) rfl (by decide) rfl dX5_thoseWith_1 ?_
  refine V_iconst dX5_thoseWith_2 ?_
  refine V_istore (L' := [(4, .int (gI 0)), (3, .int (gI 0)), (0, .ref (cxA X 1)), (1, .int (gI v1)), (2, .int (gI v2))]) (by decide) rfl dX5_thoseWith_3 ?_
  exact V_sub [2, 3, 4, 1, 0] rfl h
set_option maxHeartbeats 2000000 in
set_option maxRecDepth 20000 in
theorem rX5_thoseWith_5 {X : Cx} {v1 : Int} {v2 : Int} {v3 : Int} {v4 : Int} {σ : Sg} {Q : Int → Sg → Prop} (h : Rng σ → (inI v4) ∧ (((σ 1 1) ≤ v4 → Q v3 σ) ∧ (v4 < (σ 1 1) → (inI v4) ∧ ((8 ≤ v4 → Q v3 σ) ∧ (v4 < 8 → (0 ≤ v1 ∧ v1 < 8) ∧ (0 ≤ v4 ∧ v4 < 8) ∧ (inI v2) ∧ ((¬ (σ (3 + v1.toNat) v4.toNat) = v2 → GX5_thoseWith_41 X v1 v2 v3 v4 σ Q) ∧ ((σ (3 + v1.toNat) v4.toNat) = v2 → GX5_thoseWith_41 X v1 v2 (zor v3 (zshl 1 v4)) v4 σ Q))))))) : GX5_thoseWith_5 X v1 v2 v3 v4 σ Q := by
  unfold GX5_thoseWith_5
  refine V_rng (fun hR0 => ?_)
  have h := h hR0
  refine V_iload 4 rfl dX5_thoseWith_5 ?_
  refine V_aload_n 0 rfl rfl dX5_thoseWith_7 ?_
  refine V_getI (f := 1) ci_X5 sh_1 rfl (by decide) dX5_thoseWith_8 lk_RX5_f27 ?_
  obtain ⟨g1, h⟩ := h
  refine V_icmp_ge (tgt := 47) dX5_thoseWith_11 (by decide) g1 (show inI (σ 1 1) from (inI_sh hR0 sh_1 (by decide))) (fun q2 => ?_) (fun q2 => ?_)
  · have h := h.1 q2
    refine V_iload_n 3 rfl rfl dX5_thoseWith_47 ?_
    exact V_iret rfl (fun _ q => by cases q) (vp_nar_int _) dX5_thoseWith_48 h
  · have h := h.2 q2
    refine V_iload 4 rfl dX5_thoseWith_14 ?_
    refine V_bipush (v := 8) (by decide) dX5_thoseWith_16 ?_
    obtain ⟨g3, h⟩ := h
    refine V_icmp_ge (tgt := 47) dX5_thoseWith_18 (by decide) g3 (by decide) (fun q4 => ?_) (fun q4 => ?_)
    · have h := h.1 q4
      refine V_iload_n 3 rfl rfl dX5_thoseWith_47 ?_
      exact V_iret rfl (fun _ q => by cases q) (vp_nar_int _) dX5_thoseWith_48 h
    · have h := h.2 q4
      refine V_aload_n 0 rfl rfl dX5_thoseWith_21 ?_
      refine V_getR (f := 0) ci_X5 sh_1 rfl (by decide) (c1 := 2) rfl dX5_thoseWith_22 lk_RX5_f11 ?_
      refine V_iload_n 1 rfl rfl dX5_thoseWith_25 ?_
      obtain ⟨g5, h⟩ := h
      refine V_aald (c1 := 3 + v1.toNat) sh_2 (by decide) g5 (by omega) dX5_thoseWith_26 ?_
      refine V_iload 4 rfl dX5_thoseWith_27 ?_
      obtain ⟨g6, h⟩ := h
      refine V_iald (sh_row v1.toNat (by omega)) (by decide) g6 dX5_thoseWith_29 ?_
      refine V_iload_n 2 rfl rfl dX5_thoseWith_30 ?_
      obtain ⟨g7, h⟩ := h
      refine V_icmp_ne (tgt := 41) dX5_thoseWith_31 (by decide) (show inI (σ (3 + v1.toNat) v4.toNat) from (inI_sh hR0 (sh_row v1.toNat (by omega)) (by decide))) g7 (fun q8 => ?_) (fun q8 => ?_)
      · have h := h.1 q8
        exact h
      · have h := h.2 q8
        refine V_iload_n 3 rfl rfl dX5_thoseWith_34 ?_
        refine V_iconst dX5_thoseWith_35 ?_
        refine V_iload 4 rfl dX5_thoseWith_36 ?_
        refine V_ishl dX5_thoseWith_38 ?_
        refine V_ior dX5_thoseWith_39 ?_
        refine V_istore_n (L' := [(3, .int (gI (zor v3 (zshl 1 v4)))), (0, .ref (cxA X 1)), (1, .int (gI v1)), (2, .int (gI v2)), (4, .int (gI v4))]) rfl (by decide) rfl dX5_thoseWith_40 ?_
        exact V_sub [1, 2, 3, 0, 4] rfl h
set_option maxHeartbeats 2000000 in
set_option maxRecDepth 20000 in
theorem rX5_thoseWith_41 {X : Cx} {v1 : Int} {v2 : Int} {v3 : Int} {v4 : Int} {σ : Sg} {Q : Int → Sg → Prop} (h : Rng σ → GX5_thoseWith_5 X v1 v2 v3 (v4 + 1) σ Q) : GX5_thoseWith_41 X v1 v2 v3 v4 σ Q := by
  unfold GX5_thoseWith_41
  refine V_rng (fun hR0 => ?_)
  have h := h hR0
  refine V_iinc (L' := [(4, .int (gI (v4 + 1))), (0, .ref (cxA X 1)), (1, .int (gI v1)), (2, .int (gI v2)), (3, .int (gI v3))]) 4 rfl (by decide) rfl dX5_thoseWith_41 ?_
  refine V_goto (tgt := 5) dX5_thoseWith_44 (by decide) ?_
  exact V_sub [1, 2, 3, 4, 0] rfl h
theorem eX5_thoseWith {X : Cx} {v1 : Int} {v2 : Int} {σ : Sg} {Q : Int → Sg → Prop} (h : GX5_thoseWith_0 X v1 v2 σ Q) : KX5_thoseWith X v1 v2 σ Q := V_enter (by decide) (Nat.le_of_ble_eq_true rfl) rfl h
def GX5_thoseMarked_0 (X : Cx) (v1 : Int) (σ : Sg) (Q : Int → Sg → Prop) : Prop := VV X mX5_thoseMarked 0 [(0, .ref (cxA X 1)), (1, .int (gI v1))] [] σ Q
def GX5_thoseMarked_4 (X : Cx) (v1 : Int) (v2 : Int) (v3 : Int) (σ : Sg) (Q : Int → Sg → Prop) : Prop := VV X mX5_thoseMarked 4 [(0, .ref (cxA X 1)), (1, .int (gI v1)), (2, .int (gI v2)), (3, .int (gI v3))] [] σ Q
set_option maxHeartbeats 2000000 in
set_option maxRecDepth 20000 in
theorem rX5_thoseMarked_0 {X : Cx} {v1 : Int} {σ : Sg} {Q : Int → Sg → Prop} (h : Rng σ → GX5_thoseMarked_4 X v1 0 0 σ Q) : GX5_thoseMarked_0 X v1 σ Q := by
  unfold GX5_thoseMarked_0
  refine V_rng (fun hR0 => ?_)
  have h := h hR0
  refine V_iconst dX5_thoseMarked_0 ?_
  refine V_istore_n (L' := [(2, .int (gI 0)), (0, .ref (cxA X 1)), (1, .int (gI v1))]) rfl (by decide) rfl dX5_thoseMarked_1 ?_
  refine V_iconst dX5_thoseMarked_2 ?_
  refine V_istore_n (L' := [(3, .int (gI 0)), (2, .int (gI 0)), (0, .ref (cxA X 1)), (1, .int (gI v1))]) rfl (by decide) rfl dX5_thoseMarked_3 ?_
  exact V_sub [2, 3, 1, 0] rfl h
set_option maxHeartbeats 2000000 in
set_option maxRecDepth 20000 in
theorem rX5_thoseMarked_4 {X : Cx} {v1 : Int} {v2 : Int} {v3 : Int} {σ : Sg} {Q : Int → Sg → Prop} (h : Rng σ → (inI v3) ∧ (((σ 1 1) ≤ v3 → Q v2 σ) ∧ (v3 < (σ 1 1) → (inI v3) ∧ ((8 ≤ v3 → Q v2 σ) ∧ (v3 < 8 → (0 ≤ v3 ∧ v3 < 8) ∧ GX5_thoseMarked_4 X v1 (zor v2 (zshl (zand (zshr (σ 6 v3.toNat) v1) 1) v3)) (v3 + 1) σ Q))))) : GX5_thoseMarked_4 X v1 v2 v3 σ Q := by
  unfold GX5_thoseMarked_4
  refine V_rng (fun hR0 => ?_)
  have h := h hR0
  refine V_iload_n 3 rfl rfl dX5_thoseMarked_4 ?_
  refine V_aload_n 0 rfl rfl dX5_thoseMarked_5 ?_
  refine V_getI (f := 1) ci_X5 sh_1 rfl (by decide) dX5_thoseMarked_6 lk_RX5_f27 ?_
  obtain ⟨g1, h⟩ := h
  refine V_icmp_ge (tgt := 41) dX5_thoseMarked_9 (by decide) g1 (show inI (σ 1 1) from (inI_sh hR0 sh_1 (by decide))) (fun q2 => ?_) (fun q2 => ?_)
  · have h := h.1 q2
    refine V_iload_n 2 rfl rfl dX5_thoseMarked_41 ?_
    exact V_iret rfl (fun _ q => by cases q) (vp_nar_int _) dX5_thoseMarked_42 h
  · have h := h.2 q2
    refine V_iload_n 3 rfl rfl dX5_thoseMarked_12 ?_
    refine V_bipush (v := 8) (by decide) dX5_thoseMarked_13 ?_
    obtain ⟨g3, h⟩ := h
    refine V_icmp_ge (tgt := 41) dX5_thoseMarked_15 (by decide) g3 (by decide) (fun q4 => ?_) (fun q4 => ?_)
    · have h := h.1 q4
      refine V_iload_n 2 rfl rfl dX5_thoseMarked_41 ?_
      exact V_iret rfl (fun _ q => by cases q) (vp_nar_int _) dX5_thoseMarked_42 h
    · have h := h.2 q4
      refine V_iload_n 2 rfl rfl dX5_thoseMarked_18 ?_
      refine V_aload_n 0 rfl rfl dX5_thoseMarked_19 ?_
      refine V_getR (f := 0) ci_X5 sh_1 rfl (by decide) (c1 := 2) rfl dX5_thoseMarked_20 lk_RX5_f11 ?_
      refine V_iconst dX5_thoseMarked_23 ?_
      refine V_aald (c1 := 6) sh_2 (by decide) (by decide) rfl dX5_thoseMarked_24 ?_
      refine V_iload_n 3 rfl rfl dX5_thoseMarked_25 ?_
      obtain ⟨g5, h⟩ := h
      refine V_iald sh_6 (by decide) g5 dX5_thoseMarked_26 ?_
      refine V_iload_n 1 rfl rfl dX5_thoseMarked_27 ?_
      refine V_ishr dX5_thoseMarked_28 ?_
      refine V_iconst dX5_thoseMarked_29 ?_
      refine V_iand dX5_thoseMarked_30 ?_
      refine V_iload_n 3 rfl rfl dX5_thoseMarked_31 ?_
      refine V_ishl dX5_thoseMarked_32 ?_
      refine V_ior dX5_thoseMarked_33 ?_
      refine V_istore_n (L' := [(2, .int (gI (zor v2 (zshl (zand (zshr (σ 6 v3.toNat) v1) 1) v3)))), (0, .ref (cxA X 1)), (1, .int (gI v1)), (3, .int (gI v3))]) rfl (by decide) rfl dX5_thoseMarked_34 ?_
      refine V_iinc (L' := [(3, .int (gI (v3 + 1))), (2, .int (gI (zor v2 (zshl (zand (zshr (σ 6 v3.toNat) v1) 1) v3)))), (0, .ref (cxA X 1)), (1, .int (gI v1))]) 3 rfl (by decide) rfl dX5_thoseMarked_35 ?_
      refine V_goto (tgt := 4) dX5_thoseMarked_38 (by decide) ?_
      exact V_sub [2, 3, 1, 0] rfl h
theorem eX5_thoseMarked {X : Cx} {v1 : Int} {σ : Sg} {Q : Int → Sg → Prop} (h : GX5_thoseMarked_0 X v1 σ Q) : KX5_thoseMarked X v1 σ Q := V_enter (by decide) (Nat.le_of_ble_eq_true rfl) rfl h
def GX5_named_0 (X : Cx) (v1 : Int) (σ : Sg) (Q : Int → Sg → Prop) : Prop := VV X mX5_named 0 [(0, .ref (cxA X 1)), (1, .int (gI v1))] [] σ Q
set_option maxHeartbeats 2000000 in
set_option maxRecDepth 20000 in
theorem rX5_named_0 {X : Cx} {v1 : Int} {σ : Sg} {Q : Int → Sg → Prop} (h : Rng σ → (((zshr v1 3) = 0 → KX5_all X σ (fun r2 σ3 => Rng σ3 → Q r2 σ3)) ∧ ((zshr v1 3) = 1 → KX5_thoseWith X 0 (zand v1 7) σ (fun r5 σ6 => Rng σ6 → Q r5 σ6)) ∧ ((zshr v1 3) = 2 → KX5_thoseWith X 1 (zand v1 7) σ (fun r8 σ9 => Rng σ9 → Q r8 σ9)) ∧ (¬ (zshr v1 3) = 0 ∧ ¬ (zshr v1 3) = 1 ∧ ¬ (zshr v1 3) = 2 → KX5_thoseMarked X (zand v1 7) σ (fun r11 σ12 => Rng σ12 → Q r11 σ12)))) : GX5_named_0 X v1 σ Q := by
  unfold GX5_named_0
  refine V_rng (fun hR0 => ?_)
  have h := h hR0
  refine V_iload_n 1 rfl rfl dX5_named_0 ?_
  refine V_bipush (v := 7) (by decide) dX5_named_1 ?_
  refine V_iand dX5_named_3 ?_
  refine V_istore_n (L' := [(2, .int (gI (zand v1 7))), (0, .ref (cxA X 1)), (1, .int (gI v1))]) rfl (by decide) rfl dX5_named_4 ?_
  refine V_iload_n 2 rfl rfl dX5_named_5 ?_
  refine V_iconst dX5_named_6 ?_
  refine V_ishr dX5_named_7 ?_
  rcases (show (zshr v1 3) = 0 ∨ (zshr v1 3) = 1 ∨ (zshr v1 3) = 2 ∨ (¬ (zshr v1 3) = 0 ∧ ¬ (zshr v1 3) = 1 ∧ ¬ (zshr v1 3) = 2) by omega) with q1 | q1 | q1 | q1
  · have h := h.1 q1
    refine V_tsw (tgt := 36) (off := 28) dX5_named_8 (inI_z _) (by omega) (by omega) (by rw [q1]; rfl) (by decide) ?_
    refine V_aload_n 1 rfl rfl dX5_named_36 ?_
    refine V_cV (M' := mX5_all) (As := []) (fun r => [.int (gI r)]) ok_X5_all ok2_X5_all sh_1 rfl (by decide) rfl rfl (Nat.le_of_ble_eq_true rfl) dX5_named_37 lk_RX5_m42 (by decide) (fun _ => rfl) h (fun r2 σ3 h => ?_)
    refine V_rng (fun hR4 => ?_)
    have h := h hR4
    exact V_iret rfl (fun _ q => by cases q) (vp_nar_int _) dX5_named_40 h
  · have h := h.2.1 q1
    refine V_tsw (tgt := 41) (off := 33) dX5_named_8 (inI_z _) (by omega) (by omega) (by rw [q1]; rfl) (by decide) ?_
    refine V_aload_n 1 rfl rfl dX5_named_41 ?_
    refine V_iconst dX5_named_42 ?_
    refine V_iload_n 0 rfl rfl dX5_named_43 ?_
    refine V_cV (M' := mX5_thoseWith) (As := [.int (gI 0), .int (gI (zand v1 7))]) (fun r => [.int (gI r)]) ok_X5_thoseWith ok2_X5_thoseWith sh_1 rfl (by decide) rfl rfl (Nat.le_of_ble_eq_true rfl) dX5_named_44 lk_RX5_m31 (by decide) (fun _ => rfl) h (fun r5 σ6 h => ?_)
    refine V_rng (fun hR7 => ?_)
    have h := h hR7
    exact V_iret rfl (fun _ q => by cases q) (vp_nar_int _) dX5_named_47 h
  · have h := h.2.2.1 q1
    refine V_tsw (tgt := 48) (off := 40) dX5_named_8 (inI_z _) (by omega) (by omega) (by rw [q1]; rfl) (by decide) ?_
    refine V_aload_n 1 rfl rfl dX5_named_48 ?_
    refine V_iconst dX5_named_49 ?_
    refine V_iload_n 0 rfl rfl dX5_named_50 ?_
    refine V_cV (M' := mX5_thoseWith) (As := [.int (gI 1), .int (gI (zand v1 7))]) (fun r => [.int (gI r)]) ok_X5_thoseWith ok2_X5_thoseWith sh_1 rfl (by decide) rfl rfl (Nat.le_of_ble_eq_true rfl) dX5_named_51 lk_RX5_m31 (by decide) (fun _ => rfl) h (fun r8 σ9 h => ?_)
    refine V_rng (fun hR10 => ?_)
    have h := h hR10
    exact V_iret rfl (fun _ q => by cases q) (vp_nar_int _) dX5_named_54 h
  · have h := h.2.2.2 q1
    refine V_tswD (tgt := 55) dX5_named_8 (inI_z _) (by omega) (by decide) ?_
    refine V_aload_n 1 rfl rfl dX5_named_55 ?_
    refine V_iload_n 0 rfl rfl dX5_named_56 ?_
    refine V_cV (M' := mX5_thoseMarked) (As := [.int (gI (zand v1 7))]) (fun r => [.int (gI r)]) ok_X5_thoseMarked ok2_X5_thoseMarked sh_1 rfl (by decide) rfl rfl (Nat.le_of_ble_eq_true rfl) dX5_named_57 lk_RX5_m46 (by decide) (fun _ => rfl) h (fun r11 σ12 h => ?_)
    refine V_rng (fun hR13 => ?_)
    have h := h hR13
    exact V_iret rfl (fun _ q => by cases q) (vp_nar_int _) dX5_named_60 h
theorem eX5_named {X : Cx} {v1 : Int} {σ : Sg} {Q : Int → Sg → Prop} (h : GX5_named_0 X v1 σ Q) : KX5_named X v1 σ Q := V_enter (by decide) (Nat.le_of_ble_eq_true rfl) rfl h
def GX5_thoseLinked_0 (X : Cx) (v1 : Int) (v2 : Int) (σ : Sg) (Q : Int → Sg → Prop) : Prop := VV X mX5_thoseLinked 0 [(0, .ref (cxA X 1)), (1, .int (gI v1)), (2, .int (gI v2))] [] σ Q
def GX5_thoseLinked_5 (X : Cx) (v1 : Int) (v2 : Int) (v3 : Int) (v4 : Int) (σ : Sg) (Q : Int → Sg → Prop) : Prop := VV X mX5_thoseLinked 5 [(0, .ref (cxA X 1)), (1, .int (gI v1)), (2, .int (gI v2)), (3, .int (gI v3)), (4, .int (gI v4))] [] σ Q
def GX5_thoseLinked_42 (X : Cx) (v1 : Int) (v2 : Int) (v3 : Int) (v4 : Int) (σ : Sg) (Q : Int → Sg → Prop) : Prop := VV X mX5_thoseLinked 42 [(0, .ref (cxA X 1)), (1, .int (gI v1)), (2, .int (gI v2)), (3, .int (gI v3)), (4, .int (gI v4))] [] σ Q
set_option maxHeartbeats 2000000 in
set_option maxRecDepth 20000 in
theorem rX5_thoseLinked_0 {X : Cx} {v1 : Int} {v2 : Int} {σ : Sg} {Q : Int → Sg → Prop} (h : Rng σ → GX5_thoseLinked_5 X v1 v2 0 0 σ Q) : GX5_thoseLinked_0 X v1 v2 σ Q := by
  unfold GX5_thoseLinked_0
  refine V_rng (fun hR0 => ?_)
  have h := h hR0
  refine V_iconst dX5_thoseLinked_0 ?_
  refine V_istore_n (L' := [(3, .int (gI 0)), (0, .ref (cxA X 1)), (1, .int (gI v1)), (2, .int (gI v2))]) rfl (by decide) rfl dX5_thoseLinked_1 ?_
  refine V_iconst dX5_thoseLinked_2 ?_
  refine V_istore (L' := [(4, .int (gI 0)), (3, .int (gI 0)), (0, .ref (cxA X 1)), (1, .int (gI v1)), (2, .int (gI v2))]) (by decide) rfl dX5_thoseLinked_3 ?_
  exact V_sub [2, 3, 4, 1, 0] rfl h
set_option maxHeartbeats 2000000 in
set_option maxRecDepth 20000 in
theorem rX5_thoseLinked_5 {X : Cx} {v1 : Int} {v2 : Int} {v3 : Int} {v4 : Int} {σ : Sg} {Q : Int → Sg → Prop} (h : Rng σ → (inI v4) ∧ (((σ 1 1) ≤ v4 → Q v3 σ) ∧ (v4 < (σ 1 1) → (inI v4) ∧ ((8 ≤ v4 → Q v3 σ) ∧ (v4 < 8 → (0 ≤ v1 ∧ v1 < 8) ∧ (0 ≤ v4 ∧ v4 < 8) ∧ (((zand (σ (3 + v1.toNat) v4.toNat) v2) = 0 → GX5_thoseLinked_42 X v1 v2 v3 v4 σ Q) ∧ (¬ (zand (σ (3 + v1.toNat) v4.toNat) v2) = 0 → GX5_thoseLinked_42 X v1 v2 (zor v3 (zshl 1 v4)) v4 σ Q))))))) : GX5_thoseLinked_5 X v1 v2 v3 v4 σ Q := by
  unfold GX5_thoseLinked_5
  refine V_rng (fun hR0 => ?_)
  have h := h hR0
  refine V_iload 4 rfl dX5_thoseLinked_5 ?_
  refine V_aload_n 0 rfl rfl dX5_thoseLinked_7 ?_
  refine V_getI (f := 1) ci_X5 sh_1 rfl (by decide) dX5_thoseLinked_8 lk_RX5_f27 ?_
  obtain ⟨g1, h⟩ := h
  refine V_icmp_ge (tgt := 48) dX5_thoseLinked_11 (by decide) g1 (show inI (σ 1 1) from (inI_sh hR0 sh_1 (by decide))) (fun q2 => ?_) (fun q2 => ?_)
  · have h := h.1 q2
    refine V_iload_n 3 rfl rfl dX5_thoseLinked_48 ?_
    exact V_iret rfl (fun _ q => by cases q) (vp_nar_int _) dX5_thoseLinked_49 h
  · have h := h.2 q2
    refine V_iload 4 rfl dX5_thoseLinked_14 ?_
    refine V_bipush (v := 8) (by decide) dX5_thoseLinked_16 ?_
    obtain ⟨g3, h⟩ := h
    refine V_icmp_ge (tgt := 48) dX5_thoseLinked_18 (by decide) g3 (by decide) (fun q4 => ?_) (fun q4 => ?_)
    · have h := h.1 q4
      refine V_iload_n 3 rfl rfl dX5_thoseLinked_48 ?_
      exact V_iret rfl (fun _ q => by cases q) (vp_nar_int _) dX5_thoseLinked_49 h
    · have h := h.2 q4
      refine V_aload_n 0 rfl rfl dX5_thoseLinked_21 ?_
      refine V_getR (f := 0) ci_X5 sh_1 rfl (by decide) (c1 := 2) rfl dX5_thoseLinked_22 lk_RX5_f11 ?_
      refine V_iload_n 1 rfl rfl dX5_thoseLinked_25 ?_
      obtain ⟨g5, h⟩ := h
      refine V_aald (c1 := 3 + v1.toNat) sh_2 (by decide) g5 (by omega) dX5_thoseLinked_26 ?_
      refine V_iload 4 rfl dX5_thoseLinked_27 ?_
      obtain ⟨g6, h⟩ := h
      refine V_iald (sh_row v1.toNat (by omega)) (by decide) g6 dX5_thoseLinked_29 ?_
      refine V_iload_n 2 rfl rfl dX5_thoseLinked_30 ?_
      refine V_iand dX5_thoseLinked_31 ?_
      refine V_if_eq (tgt := 42) dX5_thoseLinked_32 (by decide) (inI_z _) (fun q7 => ?_) (fun q7 => ?_)
      · have h := h.1 q7
        exact h
      · have h := h.2 q7
        refine V_iload_n 3 rfl rfl dX5_thoseLinked_35 ?_
        refine V_iconst dX5_thoseLinked_36 ?_
        refine V_iload 4 rfl dX5_thoseLinked_37 ?_
        refine V_ishl dX5_thoseLinked_39 ?_
        refine V_ior dX5_thoseLinked_40 ?_
        refine V_istore_n (L' := [(3, .int (gI (zor v3 (zshl 1 v4)))), (0, .ref (cxA X 1)), (1, .int (gI v1)), (2, .int (gI v2)), (4, .int (gI v4))]) rfl (by decide) rfl dX5_thoseLinked_41 ?_
        exact V_sub [1, 2, 3, 0, 4] rfl h
set_option maxHeartbeats 2000000 in
set_option maxRecDepth 20000 in
theorem rX5_thoseLinked_42 {X : Cx} {v1 : Int} {v2 : Int} {v3 : Int} {v4 : Int} {σ : Sg} {Q : Int → Sg → Prop} (h : Rng σ → GX5_thoseLinked_5 X v1 v2 v3 (v4 + 1) σ Q) : GX5_thoseLinked_42 X v1 v2 v3 v4 σ Q := by
  unfold GX5_thoseLinked_42
  refine V_rng (fun hR0 => ?_)
  have h := h hR0
  refine V_iinc (L' := [(4, .int (gI (v4 + 1))), (0, .ref (cxA X 1)), (1, .int (gI v1)), (2, .int (gI v2)), (3, .int (gI v3))]) 4 rfl (by decide) rfl dX5_thoseLinked_42 ?_
  refine V_goto (tgt := 5) dX5_thoseLinked_45 (by decide) ?_
  exact V_sub [1, 2, 3, 4, 0] rfl h
theorem eX5_thoseLinked {X : Cx} {v1 : Int} {v2 : Int} {σ : Sg} {Q : Int → Sg → Prop} (h : GX5_thoseLinked_0 X v1 v2 σ Q) : KX5_thoseLinked X v1 v2 σ Q := V_enter (by decide) (Nat.le_of_ble_eq_true rfl) rfl h
def GX5_greatestSize_0 (X : Cx) (v1 : Int) (σ : Sg) (Q : Int → Sg → Prop) : Prop := VV X mX5_greatestSize 0 [(0, .ref (cxA X 1)), (1, .int (gI v1))] [] σ Q
def GX5_greatestSize_4 (X : Cx) (v1 : Int) (v2 : Int) (v3 : Int) (σ : Sg) (Q : Int → Sg → Prop) : Prop := VV X mX5_greatestSize 4 [(0, .ref (cxA X 1)), (1, .int (gI v1)), (2, .int (gI v2)), (3, .int (gI v3))] [] σ Q
def GX5_greatestSize_40 (X : Cx) (v1 : Int) (v2 : Int) (v3 : Int) (σ : Sg) (Q : Int → Sg → Prop) : Prop := VV X mX5_greatestSize 40 [(0, .ref (cxA X 1)), (1, .int (gI v1)), (2, .int (gI v2)), (3, .int (gI v3))] [] σ Q
set_option maxHeartbeats 2000000 in
set_option maxRecDepth 20000 in
theorem rX5_greatestSize_0 {X : Cx} {v1 : Int} {σ : Sg} {Q : Int → Sg → Prop} (h : Rng σ → GX5_greatestSize_4 X v1 0 0 σ Q) : GX5_greatestSize_0 X v1 σ Q := by
  unfold GX5_greatestSize_0
  refine V_rng (fun hR0 => ?_)
  have h := h hR0
  refine V_iconst dX5_greatestSize_0 ?_
  refine V_istore_n (L' := [(2, .int (gI 0)), (0, .ref (cxA X 1)), (1, .int (gI v1))]) rfl (by decide) rfl dX5_greatestSize_1 ?_
  refine V_iconst dX5_greatestSize_2 ?_
  refine V_istore_n (L' := [(3, .int (gI 0)), (2, .int (gI 0)), (0, .ref (cxA X 1)), (1, .int (gI v1))]) rfl (by decide) rfl dX5_greatestSize_3 ?_
  exact V_sub [2, 3, 1, 0] rfl h
set_option maxHeartbeats 2000000 in
set_option maxRecDepth 20000 in
theorem rX5_greatestSize_4 {X : Cx} {v1 : Int} {v2 : Int} {v3 : Int} {σ : Sg} {Q : Int → Sg → Prop} (h : Rng σ → (inI v3) ∧ (((σ 1 1) ≤ v3 → Q v2 σ) ∧ (v3 < (σ 1 1) → (inI v3) ∧ ((8 ≤ v3 → Q v2 σ) ∧ (v3 < 8 → ((¬ (zand (zshr v1 v3) 1) = 1 → GX5_greatestSize_40 X v1 v2 v3 σ Q) ∧ ((zand (zshr v1 v3) 1) = 1 → (0 ≤ v3 ∧ v3 < 8) ∧ (inI v2) ∧ GX5_greatestSize_40 X v1 ((if v2 < (σ 5 v3.toNat) then (σ 5 v3.toNat) else v2)) v3 σ Q))))))) : GX5_greatestSize_4 X v1 v2 v3 σ Q := by
  unfold GX5_greatestSize_4
  refine V_rng (fun hR0 => ?_)
  have h := h hR0
  refine V_iload_n 3 rfl rfl dX5_greatestSize_4 ?_
  refine V_aload_n 0 rfl rfl dX5_greatestSize_5 ?_
  refine V_getI (f := 1) ci_X5 sh_1 rfl (by decide) dX5_greatestSize_6 lk_RX5_f27 ?_
  obtain ⟨g1, h⟩ := h
  refine V_icmp_ge (tgt := 46) dX5_greatestSize_9 (by decide) g1 (show inI (σ 1 1) from (inI_sh hR0 sh_1 (by decide))) (fun q2 => ?_) (fun q2 => ?_)
  · have h := h.1 q2
    refine V_iload_n 2 rfl rfl dX5_greatestSize_46 ?_
    exact V_iret rfl (fun _ q => by cases q) (vp_nar_int _) dX5_greatestSize_47 h
  · have h := h.2 q2
    refine V_iload_n 3 rfl rfl dX5_greatestSize_12 ?_
    refine V_bipush (v := 8) (by decide) dX5_greatestSize_13 ?_
    obtain ⟨g3, h⟩ := h
    refine V_icmp_ge (tgt := 46) dX5_greatestSize_15 (by decide) g3 (by decide) (fun q4 => ?_) (fun q4 => ?_)
    · have h := h.1 q4
      refine V_iload_n 2 rfl rfl dX5_greatestSize_46 ?_
      exact V_iret rfl (fun _ q => by cases q) (vp_nar_int _) dX5_greatestSize_47 h
    · have h := h.2 q4
      refine V_iload_n 1 rfl rfl dX5_greatestSize_18 ?_
      refine V_iload_n 3 rfl rfl dX5_greatestSize_19 ?_
      refine V_ishr dX5_greatestSize_20 ?_
      refine V_iconst dX5_greatestSize_21 ?_
      refine V_iand dX5_greatestSize_22 ?_
      refine V_iconst dX5_greatestSize_23 ?_
      refine V_icmp_ne (tgt := 40) dX5_greatestSize_24 (by decide) (inI_z _) (by decide) (fun q5 => ?_) (fun q5 => ?_)
      · have h := h.1 q5
        exact h
      · have h := h.2 q5
        refine V_iload_n 2 rfl rfl dX5_greatestSize_27 ?_
        refine V_aload_n 0 rfl rfl dX5_greatestSize_28 ?_
        refine V_getR (f := 0) ci_X5 sh_1 rfl (by decide) (c1 := 2) rfl dX5_greatestSize_29 lk_RX5_f11 ?_
        refine V_iconst dX5_greatestSize_32 ?_
        refine V_aald (c1 := 5) sh_2 (by decide) (by decide) rfl dX5_greatestSize_33 ?_
        refine V_iload_n 3 rfl rfl dX5_greatestSize_34 ?_
        obtain ⟨g6, h⟩ := h
        refine V_iald sh_5 (by decide) g6 dX5_greatestSize_35 ?_
        obtain ⟨g7, h⟩ := h
        refine V_mmax g7 (show inI (σ 5 v3.toNat) from (inI_sh hR0 sh_5 (by decide))) ok_mmax dX5_greatestSize_36 lk_RX5_m70 (by decide) (Nat.le_of_ble_eq_true rfl) ?_
        refine V_istore_n (L' := [(2, .int (gI ((if v2 < (σ 5 v3.toNat) then (σ 5 v3.toNat) else v2)))), (0, .ref (cxA X 1)), (1, .int (gI v1)), (3, .int (gI v3))]) rfl (by decide) rfl dX5_greatestSize_39 ?_
        exact V_sub [1, 2, 0, 3] rfl h
set_option maxHeartbeats 2000000 in
set_option maxRecDepth 20000 in
theorem rX5_greatestSize_40 {X : Cx} {v1 : Int} {v2 : Int} {v3 : Int} {σ : Sg} {Q : Int → Sg → Prop} (h : Rng σ → GX5_greatestSize_4 X v1 v2 (v3 + 1) σ Q) : GX5_greatestSize_40 X v1 v2 v3 σ Q := by
  unfold GX5_greatestSize_40
  refine V_rng (fun hR0 => ?_)
  have h := h hR0
  refine V_iinc (L' := [(3, .int (gI (v3 + 1))), (0, .ref (cxA X 1)), (1, .int (gI v1)), (2, .int (gI v2))]) 3 rfl (by decide) rfl dX5_greatestSize_40 ?_
  refine V_goto (tgt := 4) dX5_greatestSize_43 (by decide) ?_
  exact V_sub [1, 2, 3, 0] rfl h
theorem eX5_greatestSize {X : Cx} {v1 : Int} {σ : Sg} {Q : Int → Sg → Prop} (h : GX5_greatestSize_0 X v1 σ Q) : KX5_greatestSize X v1 σ Q := V_enter (by decide) (Nat.le_of_ble_eq_true rfl) rfl h
def GX5_ofSize_0 (X : Cx) (v1 : Int) (v2 : Int) (σ : Sg) (Q : Int → Sg → Prop) : Prop := VV X mX5_ofSize 0 [(0, .ref (cxA X 1)), (1, .int (gI v1)), (2, .int (gI v2))] [] σ Q
set_option maxHeartbeats 2000000 in
set_option maxRecDepth 20000 in
theorem rX5_ofSize_0 {X : Cx} {v1 : Int} {v2 : Int} {σ : Sg} {Q : Int → Sg → Prop} (h : Rng σ → KX5_thoseWith X 2 v2 σ (fun r1 σ2 => Rng σ2 → Q (zand v1 r1) σ2)) : GX5_ofSize_0 X v1 v2 σ Q := by
  unfold GX5_ofSize_0
  refine V_rng (fun hR0 => ?_)
  have h := h hR0
  refine V_iload_n 1 rfl rfl dX5_ofSize_0 ?_
  refine V_aload_n 0 rfl rfl dX5_ofSize_1 ?_
  refine V_iconst dX5_ofSize_2 ?_
  refine V_iload_n 2 rfl rfl dX5_ofSize_3 ?_
  refine V_cV (M' := mX5_thoseWith) (As := [.int (gI 2), .int (gI v2)]) (fun r => [.int (gI r), .int (gI v1)]) ok_X5_thoseWith ok2_X5_thoseWith sh_1 rfl (by decide) rfl rfl (Nat.le_of_ble_eq_true rfl) dX5_ofSize_4 lk_RX5_m31 (by decide) (fun _ => rfl) h (fun r1 σ2 h => ?_)
  refine V_rng (fun hR3 => ?_)
  have h := h hR3
  refine V_iand dX5_ofSize_7 ?_
  exact V_iret rfl (fun _ q => by cases q) (vp_nar_int _) dX5_ofSize_8 h
theorem eX5_ofSize {X : Cx} {v1 : Int} {v2 : Int} {σ : Sg} {Q : Int → Sg → Prop} (h : GX5_ofSize_0 X v1 v2 σ Q) : KX5_ofSize X v1 v2 σ Q := V_enter (by decide) (Nat.le_of_ble_eq_true rfl) rfl h
def GX5_leastSize_0 (X : Cx) (v1 : Int) (σ : Sg) (Q : Int → Sg → Prop) : Prop := VV X mX5_leastSize 0 [(0, .ref (cxA X 1)), (1, .int (gI v1))] [] σ Q
def GX5_leastSize_8 (X : Cx) (v1 : Int) (v2 : Int) (v3 : Int) (σ : Sg) (Q : Int → Sg → Prop) : Prop := VV X mX5_leastSize 8 [(0, .ref (cxA X 1)), (1, .int (gI v1)), (2, .int (gI v2)), (3, .int (gI v3))] [] σ Q
def GX5_leastSize_44 (X : Cx) (v1 : Int) (v2 : Int) (v3 : Int) (σ : Sg) (Q : Int → Sg → Prop) : Prop := VV X mX5_leastSize 44 [(0, .ref (cxA X 1)), (1, .int (gI v1)), (2, .int (gI v2)), (3, .int (gI v3))] [] σ Q
set_option maxHeartbeats 2000000 in
set_option maxRecDepth 20000 in
theorem rX5_leastSize_0 {X : Cx} {v1 : Int} {σ : Sg} {Q : Int → Sg → Prop} (h : Rng σ → GX5_leastSize_8 X v1 ((stv 1).getD 2 0) 0 σ Q) : GX5_leastSize_0 X v1 σ Q := by
  unfold GX5_leastSize_0
  refine V_rng (fun hR0 => ?_)
  have h := h hR0
  refine V_gets 1 (by decide) dX5_leastSize_0 lk_RX5_s24 ?_
  refine V_iconst dX5_leastSize_3 ?_
  refine V_baldT 1 (by decide) (by decide) dX5_leastSize_4 ?_
  refine V_istore_n (L' := [(2, .int (gI ((stv 1).getD 2 0))), (0, .ref (cxA X 1)), (1, .int (gI v1))]) rfl (by decide) rfl dX5_leastSize_5 ?_
  refine V_iconst dX5_leastSize_6 ?_
  refine V_istore_n (L' := [(3, .int (gI 0)), (2, .int (gI ((stv 1).getD 2 0))), (0, .ref (cxA X 1)), (1, .int (gI v1))]) rfl (by decide) rfl dX5_leastSize_7 ?_
  exact V_sub [2, 3, 1, 0] rfl h
set_option maxHeartbeats 2000000 in
set_option maxRecDepth 20000 in
theorem rX5_leastSize_8 {X : Cx} {v1 : Int} {v2 : Int} {v3 : Int} {σ : Sg} {Q : Int → Sg → Prop} (h : Rng σ → (inI v3) ∧ (((σ 1 1) ≤ v3 → Q v2 σ) ∧ (v3 < (σ 1 1) → (inI v3) ∧ ((8 ≤ v3 → Q v2 σ) ∧ (v3 < 8 → ((¬ (zand (zshr v1 v3) 1) = 1 → GX5_leastSize_44 X v1 v2 v3 σ Q) ∧ ((zand (zshr v1 v3) 1) = 1 → (0 ≤ v3 ∧ v3 < 8) ∧ (inI v2) ∧ GX5_leastSize_44 X v1 ((if (σ 5 v3.toNat) < v2 then (σ 5 v3.toNat) else v2)) v3 σ Q))))))) : GX5_leastSize_8 X v1 v2 v3 σ Q := by
  unfold GX5_leastSize_8
  refine V_rng (fun hR0 => ?_)
  have h := h hR0
  refine V_iload_n 3 rfl rfl dX5_leastSize_8 ?_
  refine V_aload_n 0 rfl rfl dX5_leastSize_9 ?_
  refine V_getI (f := 1) ci_X5 sh_1 rfl (by decide) dX5_leastSize_10 lk_RX5_f27 ?_
  obtain ⟨g1, h⟩ := h
  refine V_icmp_ge (tgt := 50) dX5_leastSize_13 (by decide) g1 (show inI (σ 1 1) from (inI_sh hR0 sh_1 (by decide))) (fun q2 => ?_) (fun q2 => ?_)
  · have h := h.1 q2
    refine V_iload_n 2 rfl rfl dX5_leastSize_50 ?_
    exact V_iret rfl (fun _ q => by cases q) (vp_nar_int _) dX5_leastSize_51 h
  · have h := h.2 q2
    refine V_iload_n 3 rfl rfl dX5_leastSize_16 ?_
    refine V_bipush (v := 8) (by decide) dX5_leastSize_17 ?_
    obtain ⟨g3, h⟩ := h
    refine V_icmp_ge (tgt := 50) dX5_leastSize_19 (by decide) g3 (by decide) (fun q4 => ?_) (fun q4 => ?_)
    · have h := h.1 q4
      refine V_iload_n 2 rfl rfl dX5_leastSize_50 ?_
      exact V_iret rfl (fun _ q => by cases q) (vp_nar_int _) dX5_leastSize_51 h
    · have h := h.2 q4
      refine V_iload_n 1 rfl rfl dX5_leastSize_22 ?_
      refine V_iload_n 3 rfl rfl dX5_leastSize_23 ?_
      refine V_ishr dX5_leastSize_24 ?_
      refine V_iconst dX5_leastSize_25 ?_
      refine V_iand dX5_leastSize_26 ?_
      refine V_iconst dX5_leastSize_27 ?_
      refine V_icmp_ne (tgt := 44) dX5_leastSize_28 (by decide) (inI_z _) (by decide) (fun q5 => ?_) (fun q5 => ?_)
      · have h := h.1 q5
        exact h
      · have h := h.2 q5
        refine V_iload_n 2 rfl rfl dX5_leastSize_31 ?_
        refine V_aload_n 0 rfl rfl dX5_leastSize_32 ?_
        refine V_getR (f := 0) ci_X5 sh_1 rfl (by decide) (c1 := 2) rfl dX5_leastSize_33 lk_RX5_f11 ?_
        refine V_iconst dX5_leastSize_36 ?_
        refine V_aald (c1 := 5) sh_2 (by decide) (by decide) rfl dX5_leastSize_37 ?_
        refine V_iload_n 3 rfl rfl dX5_leastSize_38 ?_
        obtain ⟨g6, h⟩ := h
        refine V_iald sh_5 (by decide) g6 dX5_leastSize_39 ?_
        obtain ⟨g7, h⟩ := h
        refine V_mmin g7 (show inI (σ 5 v3.toNat) from (inI_sh hR0 sh_5 (by decide))) ok_mmin dX5_leastSize_40 lk_RX5_m75 (by decide) (Nat.le_of_ble_eq_true rfl) ?_
        refine V_istore_n (L' := [(2, .int (gI ((if (σ 5 v3.toNat) < v2 then (σ 5 v3.toNat) else v2)))), (0, .ref (cxA X 1)), (1, .int (gI v1)), (3, .int (gI v3))]) rfl (by decide) rfl dX5_leastSize_43 ?_
        exact V_sub [1, 2, 0, 3] rfl h
set_option maxHeartbeats 2000000 in
set_option maxRecDepth 20000 in
theorem rX5_leastSize_44 {X : Cx} {v1 : Int} {v2 : Int} {v3 : Int} {σ : Sg} {Q : Int → Sg → Prop} (h : Rng σ → GX5_leastSize_8 X v1 v2 (v3 + 1) σ Q) : GX5_leastSize_44 X v1 v2 v3 σ Q := by
  unfold GX5_leastSize_44
  refine V_rng (fun hR0 => ?_)
  have h := h hR0
  refine V_iinc (L' := [(3, .int (gI (v3 + 1))), (0, .ref (cxA X 1)), (1, .int (gI v1)), (2, .int (gI v2))]) 3 rfl (by decide) rfl dX5_leastSize_44 ?_
  refine V_goto (tgt := 8) dX5_leastSize_47 (by decide) ?_
  exact V_sub [1, 2, 3, 0] rfl h
theorem eX5_leastSize {X : Cx} {v1 : Int} {σ : Sg} {Q : Int → Sg → Prop} (h : GX5_leastSize_0 X v1 σ Q) : KX5_leastSize X v1 σ Q := V_enter (by decide) (Nat.le_of_ble_eq_true rfl) rfl h
def GX5_leftmost_0 (X : Cx) (v1 : Int) (σ : Sg) (Q : Int → Sg → Prop) : Prop := VV X mX5_leftmost 0 [(0, .ref (cxA X 1)), (1, .int (gI v1))] [] σ Q
def GX5_leftmost_8 (X : Cx) (v1 : Int) (v2 : Int) (v3 : Int) (v4 : Int) (σ : Sg) (Q : Int → Sg → Prop) : Prop := VV X mX5_leftmost 8 [(0, .ref (cxA X 1)), (1, .int (gI v1)), (2, .int (gI v2)), (3, .int (gI v3)), (4, .int (gI v4))] [] σ Q
def GX5_leftmost_62 (X : Cx) (v1 : Int) (v2 : Int) (v3 : Int) (v4 : Int) (σ : Sg) (Q : Int → Sg → Prop) : Prop := VV X mX5_leftmost 62 [(0, .ref (cxA X 1)), (1, .int (gI v1)), (2, .int (gI v2)), (3, .int (gI v3)), (4, .int (gI v4))] [] σ Q
set_option maxHeartbeats 2000000 in
set_option maxRecDepth 20000 in
theorem rX5_leftmost_0 {X : Cx} {v1 : Int} {σ : Sg} {Q : Int → Sg → Prop} (h : Rng σ → GX5_leftmost_8 X v1 0 16 0 σ Q) : GX5_leftmost_0 X v1 σ Q := by
  unfold GX5_leftmost_0
  refine V_rng (fun hR0 => ?_)
  have h := h hR0
  refine V_iconst dX5_leftmost_0 ?_
  refine V_istore_n (L' := [(2, .int (gI 0)), (0, .ref (cxA X 1)), (1, .int (gI v1))]) rfl (by decide) rfl dX5_leftmost_1 ?_
  refine V_bipush (v := 16) (by decide) dX5_leftmost_2 ?_
  refine V_istore_n (L' := [(3, .int (gI 16)), (2, .int (gI 0)), (0, .ref (cxA X 1)), (1, .int (gI v1))]) rfl (by decide) rfl dX5_leftmost_4 ?_
  refine V_iconst dX5_leftmost_5 ?_
  refine V_istore (L' := [(4, .int (gI 0)), (3, .int (gI 16)), (2, .int (gI 0)), (0, .ref (cxA X 1)), (1, .int (gI v1))]) (by decide) rfl dX5_leftmost_6 ?_
  exact V_sub [3, 4, 2, 1, 0] rfl h
set_option maxHeartbeats 2000000 in
set_option maxRecDepth 20000 in
theorem rX5_leftmost_8 {X : Cx} {v1 : Int} {v2 : Int} {v3 : Int} {v4 : Int} {σ : Sg} {Q : Int → Sg → Prop} (h : Rng σ → (inI v4) ∧ (((σ 1 1) ≤ v4 → Q v2 σ) ∧ (v4 < (σ 1 1) → (inI v4) ∧ ((8 ≤ v4 → Q v2 σ) ∧ (v4 < 8 → ((¬ (zand (zshr v1 v4) 1) = 1 → GX5_leftmost_62 X v1 v2 v3 v4 σ Q) ∧ ((zand (zshr v1 v4) 1) = 1 → (0 ≤ v4 ∧ v4 < 8) ∧ (inI v3) ∧ ((v3 ≤ (σ 7 v4.toNat) → GX5_leftmost_62 X v1 v2 v3 v4 σ Q) ∧ ((σ 7 v4.toNat) < v3 → (0 ≤ v4 ∧ v4 < 8) ∧ GX5_leftmost_62 X v1 (zshl 1 v4) (σ 7 v4.toNat) v4 σ Q))))))))) : GX5_leftmost_8 X v1 v2 v3 v4 σ Q := by
  unfold GX5_leftmost_8
  refine V_rng (fun hR0 => ?_)
  have h := h hR0
  refine V_iload 4 rfl dX5_leftmost_8 ?_
  refine V_aload_n 0 rfl rfl dX5_leftmost_10 ?_
  refine V_getI (f := 1) ci_X5 sh_1 rfl (by decide) dX5_leftmost_11 lk_RX5_f27 ?_
  obtain ⟨g1, h⟩ := h
  refine V_icmp_ge (tgt := 68) dX5_leftmost_14 (by decide) g1 (show inI (σ 1 1) from (inI_sh hR0 sh_1 (by decide))) (fun q2 => ?_) (fun q2 => ?_)
  · have h := h.1 q2
    refine V_iload_n 2 rfl rfl dX5_leftmost_68 ?_
    exact V_iret rfl (fun _ q => by cases q) (vp_nar_int _) dX5_leftmost_69 h
  · have h := h.2 q2
    refine V_iload 4 rfl dX5_leftmost_17 ?_
    refine V_bipush (v := 8) (by decide) dX5_leftmost_19 ?_
    obtain ⟨g3, h⟩ := h
    refine V_icmp_ge (tgt := 68) dX5_leftmost_21 (by decide) g3 (by decide) (fun q4 => ?_) (fun q4 => ?_)
    · have h := h.1 q4
      refine V_iload_n 2 rfl rfl dX5_leftmost_68 ?_
      exact V_iret rfl (fun _ q => by cases q) (vp_nar_int _) dX5_leftmost_69 h
    · have h := h.2 q4
      refine V_iload_n 1 rfl rfl dX5_leftmost_24 ?_
      refine V_iload 4 rfl dX5_leftmost_25 ?_
      refine V_ishr dX5_leftmost_27 ?_
      refine V_iconst dX5_leftmost_28 ?_
      refine V_iand dX5_leftmost_29 ?_
      refine V_iconst dX5_leftmost_30 ?_
      refine V_icmp_ne (tgt := 62) dX5_leftmost_31 (by decide) (inI_z _) (by decide) (fun q5 => ?_) (fun q5 => ?_)
      · have h := h.1 q5
        exact h
      · have h := h.2 q5
        refine V_aload_n 0 rfl rfl dX5_leftmost_34 ?_
        refine V_getR (f := 0) ci_X5 sh_1 rfl (by decide) (c1 := 2) rfl dX5_leftmost_35 lk_RX5_f11 ?_
        refine V_iconst dX5_leftmost_38 ?_
        refine V_aald (c1 := 7) sh_2 (by decide) (by decide) rfl dX5_leftmost_39 ?_
        refine V_iload 4 rfl dX5_leftmost_40 ?_
        obtain ⟨g6, h⟩ := h
        refine V_iald sh_7 (by decide) g6 dX5_leftmost_42 ?_
        refine V_iload_n 3 rfl rfl dX5_leftmost_43 ?_
        obtain ⟨g7, h⟩ := h
        refine V_icmp_ge (tgt := 62) dX5_leftmost_44 (by decide) (show inI (σ 7 v4.toNat) from (inI_sh hR0 sh_7 (by decide))) g7 (fun q8 => ?_) (fun q8 => ?_)
        · have h := h.1 q8
          exact h
        · have h := h.2 q8
          refine V_aload_n 0 rfl rfl dX5_leftmost_47 ?_
          refine V_getR (f := 0) ci_X5 sh_1 rfl (by decide) (c1 := 2) rfl dX5_leftmost_48 lk_RX5_f11 ?_
          refine V_iconst dX5_leftmost_51 ?_
          refine V_aald (c1 := 7) sh_2 (by decide) (by decide) rfl dX5_leftmost_52 ?_
          refine V_iload 4 rfl dX5_leftmost_53 ?_
          obtain ⟨g9, h⟩ := h
          refine V_iald sh_7 (by decide) g9 dX5_leftmost_55 ?_
          refine V_istore_n (L' := [(3, .int (gI (σ 7 v4.toNat))), (0, .ref (cxA X 1)), (1, .int (gI v1)), (2, .int (gI v2)), (4, .int (gI v4))]) rfl (by decide) rfl dX5_leftmost_56 ?_
          refine V_iconst dX5_leftmost_57 ?_
          refine V_iload 4 rfl dX5_leftmost_58 ?_
          refine V_ishl dX5_leftmost_60 ?_
          refine V_istore_n (L' := [(2, .int (gI (zshl 1 v4))), (3, .int (gI (σ 7 v4.toNat))), (0, .ref (cxA X 1)), (1, .int (gI v1)), (4, .int (gI v4))]) rfl (by decide) rfl dX5_leftmost_61 ?_
          exact V_sub [2, 3, 0, 1, 4] rfl h
set_option maxHeartbeats 2000000 in
set_option maxRecDepth 20000 in
theorem rX5_leftmost_62 {X : Cx} {v1 : Int} {v2 : Int} {v3 : Int} {v4 : Int} {σ : Sg} {Q : Int → Sg → Prop} (h : Rng σ → GX5_leftmost_8 X v1 v2 v3 (v4 + 1) σ Q) : GX5_leftmost_62 X v1 v2 v3 v4 σ Q := by
  unfold GX5_leftmost_62
  refine V_rng (fun hR0 => ?_)
  have h := h hR0
  refine V_iinc (L' := [(4, .int (gI (v4 + 1))), (0, .ref (cxA X 1)), (1, .int (gI v1)), (2, .int (gI v2)), (3, .int (gI v3))]) 4 rfl (by decide) rfl dX5_leftmost_62 ?_
  refine V_goto (tgt := 8) dX5_leftmost_65 (by decide) ?_
  exact V_sub [1, 2, 3, 4, 0] rfl h
theorem eX5_leftmost {X : Cx} {v1 : Int} {σ : Sg} {Q : Int → Sg → Prop} (h : GX5_leftmost_0 X v1 σ Q) : KX5_leftmost X v1 σ Q := V_enter (by decide) (Nat.le_of_ble_eq_true rfl) rfl h
def GX5_turned_0 (X : Cx) (v1 : Int) (v2 : Int) (σ : Sg) (Q : Int → Sg → Prop) : Prop := VV X mX5_turned 0 [(0, .ref (cxA X 1)), (1, .int (gI v1)), (2, .int (gI v2))] [] σ Q
set_option maxHeartbeats 2000000 in
set_option maxRecDepth 20000 in
theorem rX5_turned_0 {X : Cx} {v1 : Int} {v2 : Int} {σ : Sg} {Q : Int → Sg → Prop} (h : Rng σ → (inI v1) ∧ ((v1 = 4 → KX5_all X σ (fun r3 σ4 => Rng σ4 → Q (zand r3 (zxor v2 ((-1)))) σ4)) ∧ (v1 = 8 → KX5_thoseLinked X 5 v2 σ (fun r6 σ7 => Rng σ7 → Q r6 σ7)) ∧ (v1 = 9 → KX5_thoseLinked X 6 v2 σ (fun r9 σ10 => Rng σ10 → Q r9 σ10)) ∧ (v1 = 10 → KX5_greatestSize X v2 σ (fun r12 σ13 => Rng σ13 → KX5_ofSize X v2 r12 σ13 (fun r15 σ16 => Rng σ16 → Q r15 σ16))) ∧ (v1 = 11 → KX5_leastSize X v2 σ (fun r18 σ19 => Rng σ19 → KX5_ofSize X v2 r18 σ19 (fun r21 σ22 => Rng σ22 → Q r21 σ22))) ∧ (v1 = 12 → KX5_leftmost X v2 σ (fun r24 σ25 => Rng σ25 → Q r24 σ25)) ∧ (v1 = 13 → KX5_leftmost X v2 σ (fun r27 σ28 => Rng σ28 → KX5_leftmost X (zand v2 (zxor r27 ((-1)))) σ28 (fun r30 σ31 => Rng σ31 → Q r30 σ31))) ∧ (¬ v1 = 4 ∧ ¬ v1 = 8 ∧ ¬ v1 = 9 ∧ ¬ v1 = 10 ∧ ¬ v1 = 11 ∧ ¬ v1 = 12 ∧ ¬ v1 = 13 → KJ6_bitCount_0f7a4 X v2 σ (fun r33 σ34 => Rng σ34 → (inI r33) ∧ ((¬ r33 = 1 → Q 0 σ34) ∧ (r33 = 1 → Q v2 σ34)))))) : GX5_turned_0 X v1 v2 σ Q := by
  unfold GX5_turned_0
  refine V_rng (fun hR0 => ?_)
  have h := h hR0
  refine V_iload_n 1 rfl rfl dX5_turned_0 ?_
  obtain ⟨g1, h⟩ := h
  rcases (show v1 = 4 ∨ v1 = 8 ∨ v1 = 9 ∨ v1 = 10 ∨ v1 = 11 ∨ v1 = 12 ∨ v1 = 13 ∨ (¬ v1 = 4 ∧ ¬ v1 = 8 ∧ ¬ v1 = 9 ∧ ¬ v1 = 10 ∧ ¬ v1 = 11 ∧ ¬ v1 = 12 ∧ ¬ v1 = 13) by omega) with q2 | q2 | q2 | q2 | q2 | q2 | q2 | q2
  · have h := h.1 q2
    refine V_tsw (tgt := 56) (off := 55) dX5_turned_1 g1 (by omega) (by omega) (by rw [q2]; rfl) (by decide) ?_
    refine V_aload_n 0 rfl rfl dX5_turned_56 ?_
    refine V_cV (M' := mX5_all) (As := []) (fun r => [.int (gI r)]) ok_X5_all ok2_X5_all sh_1 rfl (by decide) rfl rfl (Nat.le_of_ble_eq_true rfl) dX5_turned_57 lk_RX5_m42 (by decide) (fun _ => rfl) h (fun r3 σ4 h => ?_)
    refine V_rng (fun hR5 => ?_)
    have h := h hR5
    refine V_iload_n 2 rfl rfl dX5_turned_60 ?_
    refine V_iconst dX5_turned_61 ?_
    refine V_ixor dX5_turned_62 ?_
    refine V_iand dX5_turned_63 ?_
    exact V_iret rfl (fun _ q => by cases q) (vp_nar_int _) dX5_turned_64 h
  · have h := h.2.1 q2
    refine V_tsw (tgt := 65) (off := 64) dX5_turned_1 g1 (by omega) (by omega) (by rw [q2]; rfl) (by decide) ?_
    refine V_aload_n 0 rfl rfl dX5_turned_65 ?_
    refine V_iconst dX5_turned_66 ?_
    refine V_iload_n 2 rfl rfl dX5_turned_67 ?_
    refine V_cV (M' := mX5_thoseLinked) (As := [.int (gI 5), .int (gI v2)]) (fun r => [.int (gI r)]) ok_X5_thoseLinked ok2_X5_thoseLinked sh_1 rfl (by decide) rfl rfl (Nat.le_of_ble_eq_true rfl) dX5_turned_68 lk_RX5_m50 (by decide) (fun _ => rfl) h (fun r6 σ7 h => ?_)
    refine V_rng (fun hR8 => ?_)
    have h := h hR8
    exact V_iret rfl (fun _ q => by cases q) (vp_nar_int _) dX5_turned_71 h
  · have h := h.2.2.1 q2
    refine V_tsw (tgt := 72) (off := 71) dX5_turned_1 g1 (by omega) (by omega) (by rw [q2]; rfl) (by decide) ?_
    refine V_aload_n 0 rfl rfl dX5_turned_72 ?_
    refine V_bipush (v := 6) (by decide) dX5_turned_73 ?_
    refine V_iload_n 2 rfl rfl dX5_turned_75 ?_
    refine V_cV (M' := mX5_thoseLinked) (As := [.int (gI 6), .int (gI v2)]) (fun r => [.int (gI r)]) ok_X5_thoseLinked ok2_X5_thoseLinked sh_1 rfl (by decide) rfl rfl (Nat.le_of_ble_eq_true rfl) dX5_turned_76 lk_RX5_m50 (by decide) (fun _ => rfl) h (fun r9 σ10 h => ?_)
    refine V_rng (fun hR11 => ?_)
    have h := h hR11
    exact V_iret rfl (fun _ q => by cases q) (vp_nar_int _) dX5_turned_79 h
  · have h := h.2.2.2.1 q2
    refine V_tsw (tgt := 80) (off := 79) dX5_turned_1 g1 (by omega) (by omega) (by rw [q2]; rfl) (by decide) ?_
    refine V_aload_n 0 rfl rfl dX5_turned_80 ?_
    refine V_iload_n 2 rfl rfl dX5_turned_81 ?_
    refine V_aload_n 0 rfl rfl dX5_turned_82 ?_
    refine V_iload_n 2 rfl rfl dX5_turned_83 ?_
    refine V_cV (M' := mX5_greatestSize) (As := [.int (gI v2)]) (fun r => [.int (gI r), .int (gI v2), .ref (cxA X 1)]) ok_X5_greatestSize ok2_X5_greatestSize sh_1 rfl (by decide) rfl rfl (Nat.le_of_ble_eq_true rfl) dX5_turned_84 lk_RX5_m53 (by decide) (fun _ => rfl) h (fun r12 σ13 h => ?_)
    refine V_rng (fun hR14 => ?_)
    have h := h hR14
    refine V_cV (M' := mX5_ofSize) (As := [.int (gI v2), .int (gI r12)]) (fun r => [.int (gI r)]) ok_X5_ofSize ok2_X5_ofSize sh_1 rfl (by decide) rfl rfl (Nat.le_of_ble_eq_true rfl) dX5_turned_87 lk_RX5_m56 (by decide) (fun _ => rfl) h (fun r15 σ16 h => ?_)
    refine V_rng (fun hR17 => ?_)
    have h := h hR17
    exact V_iret rfl (fun _ q => by cases q) (vp_nar_int _) dX5_turned_90 h
  · have h := h.2.2.2.2.1 q2
    refine V_tsw (tgt := 91) (off := 90) dX5_turned_1 g1 (by omega) (by omega) (by rw [q2]; rfl) (by decide) ?_
    refine V_aload_n 0 rfl rfl dX5_turned_91 ?_
    refine V_iload_n 2 rfl rfl dX5_turned_92 ?_
    refine V_aload_n 0 rfl rfl dX5_turned_93 ?_
    refine V_iload_n 2 rfl rfl dX5_turned_94 ?_
    refine V_cV (M' := mX5_leastSize) (As := [.int (gI v2)]) (fun r => [.int (gI r), .int (gI v2), .ref (cxA X 1)]) ok_X5_leastSize ok2_X5_leastSize sh_1 rfl (by decide) rfl rfl (Nat.le_of_ble_eq_true rfl) dX5_turned_95 lk_RX5_m59 (by decide) (fun _ => rfl) h (fun r18 σ19 h => ?_)
    refine V_rng (fun hR20 => ?_)
    have h := h hR20
    refine V_cV (M' := mX5_ofSize) (As := [.int (gI v2), .int (gI r18)]) (fun r => [.int (gI r)]) ok_X5_ofSize ok2_X5_ofSize sh_1 rfl (by decide) rfl rfl (Nat.le_of_ble_eq_true rfl) dX5_turned_98 lk_RX5_m56 (by decide) (fun _ => rfl) h (fun r21 σ22 h => ?_)
    refine V_rng (fun hR23 => ?_)
    have h := h hR23
    exact V_iret rfl (fun _ q => by cases q) (vp_nar_int _) dX5_turned_101 h
  · have h := h.2.2.2.2.2.1 q2
    refine V_tsw (tgt := 102) (off := 101) dX5_turned_1 g1 (by omega) (by omega) (by rw [q2]; rfl) (by decide) ?_
    refine V_aload_n 0 rfl rfl dX5_turned_102 ?_
    refine V_iload_n 2 rfl rfl dX5_turned_103 ?_
    refine V_cV (M' := mX5_leftmost) (As := [.int (gI v2)]) (fun r => [.int (gI r)]) ok_X5_leftmost ok2_X5_leftmost sh_1 rfl (by decide) rfl rfl (Nat.le_of_ble_eq_true rfl) dX5_turned_104 lk_RX5_m62 (by decide) (fun _ => rfl) h (fun r24 σ25 h => ?_)
    refine V_rng (fun hR26 => ?_)
    have h := h hR26
    exact V_iret rfl (fun _ q => by cases q) (vp_nar_int _) dX5_turned_107 h
  · have h := h.2.2.2.2.2.2.1 q2
    refine V_tsw (tgt := 108) (off := 107) dX5_turned_1 g1 (by omega) (by omega) (by rw [q2]; rfl) (by decide) ?_
    refine V_aload_n 0 rfl rfl dX5_turned_108 ?_
    refine V_iload_n 2 rfl rfl dX5_turned_109 ?_
    refine V_aload_n 0 rfl rfl dX5_turned_110 ?_
    refine V_iload_n 2 rfl rfl dX5_turned_111 ?_
    refine V_cV (M' := mX5_leftmost) (As := [.int (gI v2)]) (fun r => [.int (gI r), .int (gI v2), .ref (cxA X 1)]) ok_X5_leftmost ok2_X5_leftmost sh_1 rfl (by decide) rfl rfl (Nat.le_of_ble_eq_true rfl) dX5_turned_112 lk_RX5_m62 (by decide) (fun _ => rfl) h (fun r27 σ28 h => ?_)
    refine V_rng (fun hR29 => ?_)
    have h := h hR29
    refine V_iconst dX5_turned_115 ?_
    refine V_ixor dX5_turned_116 ?_
    refine V_iand dX5_turned_117 ?_
    refine V_cV (M' := mX5_leftmost) (As := [.int (gI (zand v2 (zxor r27 ((-1)))))]) (fun r => [.int (gI r)]) ok_X5_leftmost ok2_X5_leftmost sh_1 rfl (by decide) rfl rfl (Nat.le_of_ble_eq_true rfl) dX5_turned_118 lk_RX5_m62 (by decide) (fun _ => rfl) h (fun r30 σ31 h => ?_)
    refine V_rng (fun hR32 => ?_)
    have h := h hR32
    exact V_iret rfl (fun _ q => by cases q) (vp_nar_int _) dX5_turned_121 h
  · have h := h.2.2.2.2.2.2.2 q2
    have hk : VV X mX5_turned 122 [(0, .ref (cxA X 1)), (1, .int (gI v1)), (2, .int (gI v2))] [] σ Q := by
      refine V_iload_n 2 rfl rfl dX5_turned_122 ?_
      refine V_cS (M' := mJ6_bitCount_0f7a4) (As := [.int (gI v2)]) (fun r => [.int (gI r)]) ok_J6_bitCount_0f7a4 ok2_J6_bitCount_0f7a4 rfl rfl (Nat.le_of_ble_eq_true rfl) dX5_turned_123 lk_RX5_m65 (by decide) (fun _ => rfl) h (fun r33 σ34 h => ?_)
      refine V_rng (fun hR35 => ?_)
      have h := h hR35
      refine V_iconst dX5_turned_126 ?_
      obtain ⟨g36, h⟩ := h
      refine V_icmp_ne (tgt := 134) dX5_turned_127 (by decide) g36 (by decide) (fun q37 => ?_) (fun q37 => ?_)
      · have h := h.1 q37
        refine V_iconst dX5_turned_134 ?_
        exact V_iret rfl (fun _ q => by cases q) (vp_nar_int _) dX5_turned_135 h
      · have h := h.2 q37
        refine V_iload_n 2 rfl rfl dX5_turned_130 ?_
        refine V_goto (tgt := 135) dX5_turned_131 (by decide) ?_
        exact V_iret rfl (fun _ q => by cases q) (vp_nar_int _) dX5_turned_135 h
    rcases (show v1 = 5 ∨ v1 = 6 ∨ v1 = 7 ∨ (v1 < 4 ∨ 13 < v1) by omega) with q38 | q38 | q38 | q38
    · exact V_tsw (tgt := 122) (off := 121) dX5_turned_1 g1 (by omega) (by omega) (by rw [q38]; rfl) (by decide) hk
    · exact V_tsw (tgt := 122) (off := 121) dX5_turned_1 g1 (by omega) (by omega) (by rw [q38]; rfl) (by decide) hk
    · exact V_tsw (tgt := 122) (off := 121) dX5_turned_1 g1 (by omega) (by omega) (by rw [q38]; rfl) (by decide) hk
    · exact V_tswD (tgt := 122) dX5_turned_1 g1 q38 (by decide) hk
theorem eX5_turned {X : Cx} {v1 : Int} {v2 : Int} {σ : Sg} {Q : Int → Sg → Prop} (h : GX5_turned_0 X v1 v2 σ Q) : KX5_turned X v1 v2 σ Q := V_enter (by decide) (Nat.le_of_ble_eq_true rfl) rfl h
def GX10_firstLike_0 (X : Cx) (v0 : Int) (σ : Sg) (Q : Int → Sg → Prop) : Prop := VV X mX10_firstLike 0 [(0, .int (gI v0))] [] σ Q
set_option maxHeartbeats 2000000 in
set_option maxRecDepth 20000 in
theorem rX10_firstLike_0 {X : Cx} {v0 : Int} {σ : Sg} {Q : Int → Sg → Prop} (h : Rng σ → KX11_isWithin X v0 15 σ (fun r1 σ2 => Rng σ2 → (inI r1) ∧ ((r1 = 0 → Q v0 σ2) ∧ (¬ r1 = 0 → (0 ≤ v0 ∧ v0 < 15) ∧ Q ((stv 4).getD v0.toNat 0) σ2)))) : GX10_firstLike_0 X v0 σ Q := by
  unfold GX10_firstLike_0
  refine V_rng (fun hR0 => ?_)
  have h := h hR0
  refine V_iload_n 0 rfl rfl dX10_firstLike_0 ?_
  refine V_bipush (v := 15) (by decide) dX10_firstLike_1 ?_
  refine V_cN (M' := mX11_isWithin) (As := [.int (gI v0), .int (gI 15)]) (fun r => [.int (gI r)]) ok_X11_isWithin ok2_X11_isWithin rfl rfl (Nat.le_of_ble_eq_true rfl) dX10_firstLike_3 lk_RX10_m12 (by decide) (fun _ => rfl) h (fun r1 σ2 h => ?_)
  refine V_rng (fun hR3 => ?_)
  have h := h hR3
  obtain ⟨g4, h⟩ := h
  refine V_if_eq (tgt := 17) dX10_firstLike_6 (by decide) g4 (fun q5 => ?_) (fun q5 => ?_)
  · have h := h.1 q5
    refine V_iload_n 0 rfl rfl dX10_firstLike_17 ?_
    exact V_iret rfl (fun _ q => by cases q) (vp_nar_int _) dX10_firstLike_18 h
  · have h := h.2 q5
    refine V_gets 4 (by decide) dX10_firstLike_9 lk_RX10_s23 ?_
    refine V_iload_n 0 rfl rfl dX10_firstLike_12 ?_
    obtain ⟨g6, h⟩ := h
    refine V_baldT 4 (by decide) g6 dX10_firstLike_13 ?_
    refine V_goto (tgt := 18) dX10_firstLike_14 (by decide) ?_
    exact V_iret rfl (fun _ q => by cases q) (vp_nar_int _) dX10_firstLike_18 h
theorem eX10_firstLike {X : Cx} {v0 : Int} {σ : Sg} {Q : Int → Sg → Prop} (h : GX10_firstLike_0 X v0 σ Q) : KX10_firstLike X v0 σ Q := V_enter (by decide) (Nat.le_of_ble_eq_true rfl) rfl h
def GX10_lastLike_0 (X : Cx) (v0 : Int) (σ : Sg) (Q : Int → Sg → Prop) : Prop := VV X mX10_lastLike 0 [(0, .int (gI v0))] [] σ Q
set_option maxHeartbeats 2000000 in
set_option maxRecDepth 20000 in
theorem rX10_lastLike_0 {X : Cx} {v0 : Int} {σ : Sg} {Q : Int → Sg → Prop} (h : Rng σ → KX11_isWithin X v0 15 σ (fun r1 σ2 => Rng σ2 → (inI r1) ∧ ((r1 = 0 → Q v0 σ2) ∧ (¬ r1 = 0 → (0 ≤ v0 ∧ v0 < 15) ∧ Q ((stv 5).getD v0.toNat 0) σ2)))) : GX10_lastLike_0 X v0 σ Q := by
  unfold GX10_lastLike_0
  refine V_rng (fun hR0 => ?_)
  have h := h hR0
  refine V_iload_n 0 rfl rfl dX10_lastLike_0 ?_
  refine V_bipush (v := 15) (by decide) dX10_lastLike_1 ?_
  refine V_cN (M' := mX11_isWithin) (As := [.int (gI v0), .int (gI 15)]) (fun r => [.int (gI r)]) ok_X11_isWithin ok2_X11_isWithin rfl rfl (Nat.le_of_ble_eq_true rfl) dX10_lastLike_3 lk_RX10_m12 (by decide) (fun _ => rfl) h (fun r1 σ2 h => ?_)
  refine V_rng (fun hR3 => ?_)
  have h := h hR3
  obtain ⟨g4, h⟩ := h
  refine V_if_eq (tgt := 17) dX10_lastLike_6 (by decide) g4 (fun q5 => ?_) (fun q5 => ?_)
  · have h := h.1 q5
    refine V_iload_n 0 rfl rfl dX10_lastLike_17 ?_
    exact V_iret rfl (fun _ q => by cases q) (vp_nar_int _) dX10_lastLike_18 h
  · have h := h.2 q5
    refine V_gets 5 (by decide) dX10_lastLike_9 lk_RX10_s26 ?_
    refine V_iload_n 0 rfl rfl dX10_lastLike_12 ?_
    obtain ⟨g6, h⟩ := h
    refine V_baldT 5 (by decide) g6 dX10_lastLike_13 ?_
    refine V_goto (tgt := 18) dX10_lastLike_14 (by decide) ?_
    exact V_iret rfl (fun _ q => by cases q) (vp_nar_int _) dX10_lastLike_18 h
theorem eX10_lastLike {X : Cx} {v0 : Int} {σ : Sg} {Q : Int → Sg → Prop} (h : GX10_lastLike_0 X v0 σ Q) : KX10_lastLike X v0 σ Q := V_enter (by decide) (Nat.le_of_ble_eq_true rfl) rfl h
def GX10_join_0 (X : Cx) (v0 : Int) (v1 : Int) (v2 : Int) (σ : Sg) (Q : Int → Sg → Prop) : Prop := VV X mX10_join 0 [(0, .int (gI v0)), (1, .int (gI v1)), (2, .int (gI v2))] [] σ Q
set_option maxHeartbeats 2000000 in
set_option maxRecDepth 20000 in
theorem rX10_join_0 {X : Cx} {v0 : Int} {v1 : Int} {v2 : Int} {σ : Sg} {Q : Int → Sg → Prop} (h : Rng σ → (inI v0) ∧ ((v0 = 5 → Q (zand v1 v2) σ) ∧ (v0 = 6 → Q (zor v1 v2) σ) ∧ (¬ v0 = 5 ∧ ¬ v0 = 6 → Q (zand v1 (zxor v2 ((-1)))) σ))) : GX10_join_0 X v0 v1 v2 σ Q := by
  unfold GX10_join_0
  refine V_rng (fun hR0 => ?_)
  have h := h hR0
  refine V_iload_n 0 rfl rfl dX10_join_0 ?_
  obtain ⟨g1, h⟩ := h
  rcases (show v0 = 5 ∨ v0 = 6 ∨ (¬ v0 = 5 ∧ ¬ v0 = 6) by omega) with q2 | q2 | q2
  · have h := h.1 q2
    refine V_lsw (tgt := 28) (off := 27) dX10_join_1 g1 (by decide) (by rw [q2]; decide) (by decide) ?_
    refine V_iload_n 1 rfl rfl dX10_join_28 ?_
    refine V_iload_n 2 rfl rfl dX10_join_29 ?_
    refine V_iand dX10_join_30 ?_
    exact V_iret rfl (fun _ q => by cases q) (vp_nar_int _) dX10_join_31 h
  · have h := h.2.1 q2
    refine V_lsw (tgt := 32) (off := 31) dX10_join_1 g1 (by decide) (by rw [q2]; decide) (by decide) ?_
    refine V_iload_n 1 rfl rfl dX10_join_32 ?_
    refine V_iload_n 2 rfl rfl dX10_join_33 ?_
    refine V_ior dX10_join_34 ?_
    exact V_iret rfl (fun _ q => by cases q) (vp_nar_int _) dX10_join_35 h
  · have h := h.2.2 q2
    refine V_lsw (tgt := 36) (off := 35) dX10_join_1 g1 (by decide) (by simp only [Op.lookupswitch.offset_cons]; rw [if_neg (by omega), if_neg (by omega)]; rfl) (by decide) ?_
    refine V_iload_n 1 rfl rfl dX10_join_36 ?_
    refine V_iload_n 2 rfl rfl dX10_join_37 ?_
    refine V_iconst dX10_join_38 ?_
    refine V_ixor dX10_join_39 ?_
    refine V_iand dX10_join_40 ?_
    exact V_iret rfl (fun _ q => by cases q) (vp_nar_int _) dX10_join_41 h
theorem eX10_join {X : Cx} {v0 : Int} {v1 : Int} {v2 : Int} {σ : Sg} {Q : Int → Sg → Prop} (h : GX10_join_0 X v0 v1 v2 σ Q) : KX10_join X v0 v1 v2 σ Q := V_enter (by decide) (Nat.le_of_ble_eq_true rfl) rfl h
def GX5_isLook_0 (X : Cx) (v0 : Int) (v1 : Int) (σ : Sg) (Q : Int → Sg → Prop) : Prop := VV X mX5_isLook 0 [(0, .int (gI v0)), (1, .int (gI v1))] [] σ Q
set_option maxHeartbeats 2000000 in
set_option maxRecDepth 20000 in
theorem rX5_isLook_0 {X : Cx} {v0 : Int} {v1 : Int} {σ : Sg} {Q : Int → Sg → Prop} (h : Rng σ → KX11_isWithin X v0 4 σ (fun r1 σ2 => Rng σ2 → (inI r1) ∧ ((r1 = 0 → Q 0 σ2) ∧ (¬ r1 = 0 → (0 ≤ v0 ∧ v0 < 4) ∧ (inI v1) ∧ ((v1 < ((stv 0).getD v0.toNat 0) → Q 0 σ2) ∧ (((stv 0).getD v0.toNat 0) ≤ v1 → (0 ≤ v0 ∧ v0 < 4) ∧ (inI v1) ∧ ((((stv 1).getD v0.toNat 0) < v1 → Q 0 σ2) ∧ (v1 ≤ ((stv 1).getD v0.toNat 0) → Q 1 σ2)))))))) : GX5_isLook_0 X v0 v1 σ Q := by
  unfold GX5_isLook_0
  refine V_rng (fun hR0 => ?_)
  have h := h hR0
  refine V_iload_n 0 rfl rfl dX5_isLook_0 ?_
  refine V_gets 0 (by decide) dX5_isLook_1 lk_RX5_s16 ?_
  refine V_alenT 0 (by decide) dX5_isLook_4 ?_
  refine V_cN (M' := mX11_isWithin) (As := [.int (gI v0), .int (gI 4)]) (fun r => [.int (gI r)]) ok_X11_isWithin ok2_X11_isWithin rfl rfl (Nat.le_of_ble_eq_true rfl) dX5_isLook_5 lk_RX5_m20 (by decide) (fun _ => rfl) h (fun r1 σ2 h => ?_)
  refine V_rng (fun hR3 => ?_)
  have h := h hR3
  obtain ⟨g4, h⟩ := h
  refine V_if_eq (tgt := 33) dX5_isLook_8 (by decide) g4 (fun q5 => ?_) (fun q5 => ?_)
  · have h := h.1 q5
    refine V_iconst dX5_isLook_33 ?_
    exact V_iret rfl (fun _ q => by cases q) (by decide) dX5_isLook_34 h
  · have h := h.2 q5
    refine V_iload_n 1 rfl rfl dX5_isLook_11 ?_
    refine V_gets 0 (by decide) dX5_isLook_12 lk_RX5_s16 ?_
    refine V_iload_n 0 rfl rfl dX5_isLook_15 ?_
    obtain ⟨g6, h⟩ := h
    refine V_baldT 0 (by decide) g6 dX5_isLook_16 ?_
    obtain ⟨g7, h⟩ := h
    refine V_icmp_lt (tgt := 33) dX5_isLook_17 (by decide) g7 (inI_stv 0 _ (by decide)) (fun q8 => ?_) (fun q8 => ?_)
    · have h := h.1 q8
      refine V_iconst dX5_isLook_33 ?_
      exact V_iret rfl (fun _ q => by cases q) (by decide) dX5_isLook_34 h
    · have h := h.2 q8
      refine V_iload_n 1 rfl rfl dX5_isLook_20 ?_
      refine V_gets 1 (by decide) dX5_isLook_21 lk_RX5_s24 ?_
      refine V_iload_n 0 rfl rfl dX5_isLook_24 ?_
      obtain ⟨g9, h⟩ := h
      refine V_baldT 1 (by decide) g9 dX5_isLook_25 ?_
      obtain ⟨g10, h⟩ := h
      refine V_icmp_gt (tgt := 33) dX5_isLook_26 (by decide) g10 (inI_stv 1 _ (by decide)) (fun q11 => ?_) (fun q11 => ?_)
      · have h := h.1 q11
        refine V_iconst dX5_isLook_33 ?_
        exact V_iret rfl (fun _ q => by cases q) (by decide) dX5_isLook_34 h
      · have h := h.2 q11
        refine V_iconst dX5_isLook_29 ?_
        refine V_goto (tgt := 34) dX5_isLook_30 (by decide) ?_
        exact V_iret rfl (fun _ q => by cases q) (by decide) dX5_isLook_34 h
theorem eX5_isLook {X : Cx} {v0 : Int} {v1 : Int} {σ : Sg} {Q : Int → Sg → Prop} (h : GX5_isLook_0 X v0 v1 σ Q) : KX5_isLook X v0 v1 σ Q := V_enter (by decide) (Nat.le_of_ble_eq_true rfl) rfl h
def GX5_isTaken_0 (X : Cx) (v1 : Int) (σ : Sg) (Q : Int → Sg → Prop) : Prop := VV X mX5_isTaken 0 [(0, .ref (cxA X 1)), (1, .int (gI v1))] [] σ Q
set_option maxHeartbeats 2000000 in
set_option maxRecDepth 20000 in
theorem rX5_isTaken_0 {X : Cx} {v1 : Int} {σ : Sg} {Q : Int → Sg → Prop} (h : Rng σ → KX5_thoseWith X 4 v1 σ (fun r1 σ2 => Rng σ2 → (inI r1) ∧ ((r1 = 0 → Q 0 σ2) ∧ (¬ r1 = 0 → Q 1 σ2)))) : GX5_isTaken_0 X v1 σ Q := by
  unfold GX5_isTaken_0
  refine V_rng (fun hR0 => ?_)
  have h := h hR0
  refine V_aload_n 0 rfl rfl dX5_isTaken_0 ?_
  refine V_iconst dX5_isTaken_1 ?_
  refine V_iload_n 1 rfl rfl dX5_isTaken_2 ?_
  refine V_cV (M' := mX5_thoseWith) (As := [.int (gI 4), .int (gI v1)]) (fun r => [.int (gI r)]) ok_X5_thoseWith ok2_X5_thoseWith sh_1 rfl (by decide) rfl rfl (Nat.le_of_ble_eq_true rfl) dX5_isTaken_3 lk_RX5_m31 (by decide) (fun _ => rfl) h (fun r1 σ2 h => ?_)
  refine V_rng (fun hR3 => ?_)
  have h := h hR3
  obtain ⟨g4, h⟩ := h
  refine V_if_eq (tgt := 13) dX5_isTaken_6 (by decide) g4 (fun q5 => ?_) (fun q5 => ?_)
  · have h := h.1 q5
    refine V_iconst dX5_isTaken_13 ?_
    exact V_iret rfl (fun _ q => by cases q) (by decide) dX5_isTaken_14 h
  · have h := h.2 q5
    refine V_iconst dX5_isTaken_9 ?_
    refine V_goto (tgt := 14) dX5_isTaken_10 (by decide) ?_
    exact V_iret rfl (fun _ q => by cases q) (by decide) dX5_isTaken_14 h
theorem eX5_isTaken {X : Cx} {v1 : Int} {σ : Sg} {Q : Int → Sg → Prop} (h : GX5_isTaken_0 X v1 σ Q) : KX5_isTaken X v1 σ Q := V_enter (by decide) (Nat.le_of_ble_eq_true rfl) rfl h
def GX5_add_0 (X : Cx) (v1 : Int) (v2 : Int) (v3 : Int) (v4 : Int) (σ : Sg) (Q : Int → Sg → Prop) : Prop := VV X mX5_add 0 [(0, .ref (cxA X 1)), (1, .int (gI v1)), (2, .int (gI v2)), (3, .int (gI v3)), (4, .int (gI v4))] [] σ Q
def GX5_add_98 (X : Cx) (v1 : Int) (v2 : Int) (v3 : Int) (v4 : Int) (v5 : Int) (v6 : Int) (σ : Sg) (Q : Int → Sg → Prop) : Prop := VV X mX5_add 98 [(0, .ref (cxA X 1)), (1, .int (gI v1)), (2, .int (gI v2)), (3, .int (gI v3)), (4, .int (gI v4)), (5, .int (gI v5)), (6, .int (gI v6))] [] σ Q
set_option maxHeartbeats 2000000 in
set_option maxRecDepth 20000 in
theorem rX5_add_0 {X : Cx} {v1 : Int} {v2 : Int} {v3 : Int} {v4 : Int} {σ : Sg} {Q : Int → Sg → Prop} (h : Rng σ → (((σ 1 1) < 8 → (0 ≤ σ 1 1 ∧ σ 1 1 < 8) ∧ (inI v1) ∧ (0 ≤ σ 1 1 ∧ σ 1 1 < 8) ∧ (inI v2) ∧ (0 ≤ σ 1 1 ∧ σ 1 1 < 8) ∧ (inI v3) ∧ (0 ≤ σ 1 1 ∧ σ 1 1 < 8) ∧ (inI v4) ∧ KX5_thoseWith X 4 (v4 - 1) (up2 (up2 (up2 (up2 σ 3 ((σ 1 1).toNat) v1) 4 ((σ 1 1).toNat) v2) 5 ((σ 1 1).toNat) v3) 7 ((σ 1 1).toNat) v4) (fun r10 σ11 => Rng σ11 → KX5_thoseWith X 4 (v4 + 1) σ11 (fun r13 σ14 => Rng σ14 → (0 ≤ σ14 1 1 ∧ σ14 1 1 < 8) ∧ GX5_add_98 X v1 v2 v3 v4 (zor r10 r13) 0 (up2 σ14 8 ((σ14 1 1).toNat) (zor r10 r13)) Q))) ∧ (8 ≤ (σ 1 1) → Q ((-5)) σ))) : GX5_add_0 X v1 v2 v3 v4 σ Q := by
  unfold GX5_add_0
  refine V_rng (fun hR0 => ?_)
  have h := h hR0
  refine V_aload_n 0 rfl rfl dX5_add_0 ?_
  refine V_getI (f := 1) ci_X5 sh_1 rfl (by decide) dX5_add_1 lk_RX5_f27 ?_
  refine V_bipush (v := 8) (by decide) dX5_add_4 ?_
  refine V_icmp_lt (tgt := 12) dX5_add_6 (by decide) (show inI (σ 1 1) from (inI_sh hR0 sh_1 (by decide))) (by decide) (fun q1 => ?_) (fun q1 => ?_)
  · have h := h.1 q1
    refine V_aload_n 0 rfl rfl dX5_add_12 ?_
    refine V_getR (f := 0) ci_X5 sh_1 rfl (by decide) (c1 := 2) rfl dX5_add_13 lk_RX5_f11 ?_
    refine V_iconst dX5_add_16 ?_
    refine V_aald (c1 := 3) sh_2 (by decide) (by decide) rfl dX5_add_17 ?_
    refine V_aload_n 0 rfl rfl dX5_add_18 ?_
    refine V_getI (f := 1) ci_X5 sh_1 rfl (by decide) dX5_add_19 lk_RX5_f27 ?_
    refine V_iload_n 1 rfl rfl dX5_add_22 ?_
    obtain ⟨g2, h⟩ := h
    obtain ⟨g3, h⟩ := h
    refine V_iast sh_3 (by decide) g2 g3 dX5_add_23 ?_
    refine V_aload_n 0 rfl rfl dX5_add_24 ?_
    refine V_getR (f := 0) ci_X5 sh_1 rfl (by decide) (c1 := 2) rfl dX5_add_25 lk_RX5_f11 ?_
    refine V_iconst dX5_add_28 ?_
    refine V_aald (c1 := 4) sh_2 (by decide) (by decide) rfl dX5_add_29 ?_
    refine V_aload_n 0 rfl rfl dX5_add_30 ?_
    refine V_getI (f := 1) ci_X5 sh_1 rfl (by decide) dX5_add_31 lk_RX5_f27 ?_
    refine V_iload_n 2 rfl rfl dX5_add_34 ?_
    obtain ⟨g4, h⟩ := h
    obtain ⟨g5, h⟩ := h
    refine V_iast sh_4 (by decide) g4 g5 dX5_add_35 ?_
    refine V_aload_n 0 rfl rfl dX5_add_36 ?_
    refine V_getR (f := 0) ci_X5 sh_1 rfl (by decide) (c1 := 2) rfl dX5_add_37 lk_RX5_f11 ?_
    refine V_iconst dX5_add_40 ?_
    refine V_aald (c1 := 5) sh_2 (by decide) (by decide) rfl dX5_add_41 ?_
    refine V_aload_n 0 rfl rfl dX5_add_42 ?_
    refine V_getI (f := 1) ci_X5 sh_1 rfl (by decide) dX5_add_43 lk_RX5_f27 ?_
    refine V_iload_n 3 rfl rfl dX5_add_46 ?_
    obtain ⟨g6, h⟩ := h
    obtain ⟨g7, h⟩ := h
    refine V_iast sh_5 (by decide) g6 g7 dX5_add_47 ?_
    refine V_aload_n 0 rfl rfl dX5_add_48 ?_
    refine V_getR (f := 0) ci_X5 sh_1 rfl (by decide) (c1 := 2) rfl dX5_add_49 lk_RX5_f11 ?_
    refine V_iconst dX5_add_52 ?_
    refine V_aald (c1 := 7) sh_2 (by decide) (by decide) rfl dX5_add_53 ?_
    refine V_aload_n 0 rfl rfl dX5_add_54 ?_
    refine V_getI (f := 1) ci_X5 sh_1 rfl (by decide) dX5_add_55 lk_RX5_f27 ?_
    refine V_iload 4 rfl dX5_add_58 ?_
    obtain ⟨g8, h⟩ := h
    obtain ⟨g9, h⟩ := h
    refine V_iast sh_7 (by decide) g8 g9 dX5_add_60 ?_
    refine V_aload_n 0 rfl rfl dX5_add_61 ?_
    refine V_iconst dX5_add_62 ?_
    refine V_iload 4 rfl dX5_add_63 ?_
    refine V_iconst dX5_add_65 ?_
    refine V_isub dX5_add_66 ?_
    refine V_cV (M' := mX5_thoseWith) (As := [.int (gI 4), .int (gI (v4 - 1))]) (fun r => [.int (gI r)]) ok_X5_thoseWith ok2_X5_thoseWith sh_1 rfl (by decide) rfl rfl (Nat.le_of_ble_eq_true rfl) dX5_add_67 lk_RX5_m31 (by decide) (fun _ => rfl) h (fun r10 σ11 h => ?_)
    refine V_rng (fun hR12 => ?_)
    have h := h hR12
    refine V_aload_n 0 rfl rfl dX5_add_70 ?_
    refine V_iconst dX5_add_71 ?_
    refine V_iload 4 rfl dX5_add_72 ?_
    refine V_iconst dX5_add_74 ?_
    refine V_iadd dX5_add_75 ?_
    refine V_cV (M' := mX5_thoseWith) (As := [.int (gI 4), .int (gI (v4 + 1))]) (fun r => [.int (gI r), .int (gI r10)]) ok_X5_thoseWith ok2_X5_thoseWith sh_1 rfl (by decide) rfl rfl (Nat.le_of_ble_eq_true rfl) dX5_add_76 lk_RX5_m31 (by decide) (fun _ => rfl) h (fun r13 σ14 h => ?_)
    refine V_rng (fun hR15 => ?_)
    have h := h hR15
    refine V_ior dX5_add_79 ?_
    refine V_istore (L' := [(5, .int (gI (zor r10 r13))), (0, .ref (cxA X 1)), (1, .int (gI v1)), (2, .int (gI v2)), (3, .int (gI v3)), (4, .int (gI v4))]) (by decide) rfl dX5_add_80 ?_
    refine V_aload_n 1 rfl rfl dX5_add_82 ?_
    refine V_getR (f := 0) ci_X5 sh_1 rfl (by decide) (c1 := 2) rfl dX5_add_83 lk_RX5_f11 ?_
    refine V_iconst dX5_add_86 ?_
    refine V_aald (c1 := 8) sh_2 (by decide) (by decide) rfl dX5_add_87 ?_
    refine V_aload_n 1 rfl rfl dX5_add_88 ?_
    refine V_getI (f := 1) ci_X5 sh_1 rfl (by decide) dX5_add_89 lk_RX5_f27 ?_
    refine V_iload 0 rfl dX5_add_92 ?_
    obtain ⟨g16, h⟩ := h
    refine V_iast sh_8 (by decide) g16 (inI_z _) dX5_add_94 ?_
    refine V_iconst dX5_add_95 ?_
    refine V_istore (L' := [(6, .int (gI 0)), (5, .int (gI (zor r10 r13))), (0, .ref (cxA X 1)), (1, .int (gI v1)), (2, .int (gI v2)), (3, .int (gI v3)), (4, .int (gI v4))]) (by decide) rfl dX5_add_96 ?_
    exact V_sub [2, 3, 4, 5, 6, 1, 0] rfl h
  · have h := h.2 q1
    refine V_bipush (v := -5) (by decide) dX5_add_9 ?_
    exact V_iret rfl (fun _ q => by cases q) (vp_nar_int _) dX5_add_11 h
set_option maxHeartbeats 2000000 in
set_option maxRecDepth 20000 in
theorem rX5_add_98 {X : Cx} {v1 : Int} {v2 : Int} {v3 : Int} {v4 : Int} {v5 : Int} {v6 : Int} {σ : Sg} {Q : Int → Sg → Prop} (h : Rng σ → (inI v6) ∧ (((σ 1 1) ≤ v6 → (inI ((σ 1 1) + 1)) ∧ Q (σ 1 1) (up2 σ 1 1 ((σ 1 1) + 1))) ∧ (v6 < (σ 1 1) → (0 ≤ v6 ∧ v6 < 8) ∧ (0 ≤ v6 ∧ v6 < 8) ∧ GX5_add_98 X v1 v2 v3 v4 v5 (v6 + 1) (up2 σ 8 v6.toNat (zor (σ 8 v6.toNat) (zshl (zand (zshr v5 v6) 1) (σ 1 1)))) Q))) : GX5_add_98 X v1 v2 v3 v4 v5 v6 σ Q := by
  unfold GX5_add_98
  refine V_rng (fun hR0 => ?_)
  have h := h hR0
  refine V_iload 6 rfl dX5_add_98 ?_
  refine V_aload_n 0 rfl rfl dX5_add_100 ?_
  refine V_getI (f := 1) ci_X5 sh_1 rfl (by decide) dX5_add_101 lk_RX5_f27 ?_
  obtain ⟨g1, h⟩ := h
  refine V_icmp_ge (tgt := 137) dX5_add_104 (by decide) g1 (show inI (σ 1 1) from (inI_sh hR0 sh_1 (by decide))) (fun q2 => ?_) (fun q2 => ?_)
  · have h := h.1 q2
    refine V_aload_n 0 rfl rfl dX5_add_137 ?_
    refine V_dup rfl dX5_add_138 ?_
    refine V_getI (f := 1) ci_X5 sh_1 rfl (by decide) dX5_add_139 lk_RX5_f27 ?_
    refine V_dup_x1 rfl rfl dX5_add_142 ?_
    refine V_iconst dX5_add_143 ?_
    refine V_iadd dX5_add_144 ?_
    obtain ⟨g3, h⟩ := h
    refine V_putI (f := 1) ci_X5 sh_1 rfl (by decide) rfl rfl g3 dX5_add_145 lk_RX5_f27 ?_
    exact V_iret rfl (fun _ q => by cases q) (vp_nar_int _) dX5_add_148 h
  · have h := h.2 q2
    refine V_aload_n 0 rfl rfl dX5_add_107 ?_
    refine V_getR (f := 0) ci_X5 sh_1 rfl (by decide) (c1 := 2) rfl dX5_add_108 lk_RX5_f11 ?_
    refine V_iconst dX5_add_111 ?_
    refine V_aald (c1 := 8) sh_2 (by decide) (by decide) rfl dX5_add_112 ?_
    refine V_iload 6 rfl dX5_add_113 ?_
    refine V_dup2 rfl rfl dX5_add_115 ?_
    obtain ⟨g4, h⟩ := h
    refine V_iald sh_8 (by decide) g4 dX5_add_116 ?_
    refine V_iload 5 rfl dX5_add_117 ?_
    refine V_iload 6 rfl dX5_add_119 ?_
    refine V_ishr dX5_add_121 ?_
    refine V_iconst dX5_add_122 ?_
    refine V_iand dX5_add_123 ?_
    refine V_aload_n 0 rfl rfl dX5_add_124 ?_
    refine V_getI (f := 1) ci_X5 sh_1 rfl (by decide) dX5_add_125 lk_RX5_f27 ?_
    refine V_ishl dX5_add_128 ?_
    refine V_ior dX5_add_129 ?_
    obtain ⟨g5, h⟩ := h
    refine V_iast sh_8 (by decide) g5 (inI_z _) dX5_add_130 ?_
    refine V_iinc (L' := [(6, .int (gI (v6 + 1))), (0, .ref (cxA X 1)), (1, .int (gI v1)), (2, .int (gI v2)), (3, .int (gI v3)), (4, .int (gI v4)), (5, .int (gI v5))]) 6 rfl (by decide) rfl dX5_add_131 ?_
    refine V_goto (tgt := 98) dX5_add_134 (by decide) ?_
    exact V_sub [1, 2, 3, 4, 5, 6, 0] rfl h
theorem eX5_add {X : Cx} {v1 : Int} {v2 : Int} {v3 : Int} {v4 : Int} {σ : Sg} {Q : Int → Sg → Prop} (h : GX5_add_0 X v1 v2 v3 v4 σ Q) : KX5_add X v1 v2 v3 v4 σ Q := V_enter (by decide) (Nat.le_of_ble_eq_true rfl) rfl h
def GX5_isTied_0 (X : Cx) (v1 : Int) (v2 : Int) (σ : Sg) (Q : Int → Sg → Prop) : Prop := VV X mX5_isTied 0 [(0, .ref (cxA X 1)), (1, .int (gI v1)), (2, .int (gI v2))] [] σ Q
set_option maxHeartbeats 2000000 in
set_option maxRecDepth 20000 in
theorem rX5_isTied_0 {X : Cx} {v1 : Int} {v2 : Int} {σ : Sg} {Q : Int → Sg → Prop} (h : Rng σ → KX5_has X v1 σ (fun r1 σ2 => Rng σ2 → (inI r1) ∧ ((r1 = 0 → Q 0 σ2) ∧ (¬ r1 = 0 → KX5_has X v2 σ2 (fun r6 σ7 => Rng σ7 → (inI r6) ∧ ((r6 = 0 → Q 0 σ7) ∧ (¬ r6 = 0 → (0 ≤ v1 ∧ v1 < 8) ∧ ((¬ (zand (zshr (σ7 9 v1.toNat) v2) 1) = 1 → Q 0 σ7) ∧ ((zand (zshr (σ7 9 v1.toNat) v2) 1) = 1 → Q 1 σ7))))))))) : GX5_isTied_0 X v1 v2 σ Q := by
  unfold GX5_isTied_0
  refine V_rng (fun hR0 => ?_)
  have h := h hR0
  refine V_aload_n 0 rfl rfl dX5_isTied_0 ?_
  refine V_iload_n 1 rfl rfl dX5_isTied_1 ?_
  refine V_cV (M' := mX5_has) (As := [.int (gI v1)]) (fun r => [.int (gI r)]) ok_X5_has ok2_X5_has sh_1 rfl (by decide) rfl rfl (Nat.le_of_ble_eq_true rfl) dX5_isTied_2 lk_RX5_m35 (by decide) (fun _ => rfl) h (fun r1 σ2 h => ?_)
  refine V_rng (fun hR3 => ?_)
  have h := h hR3
  obtain ⟨g4, h⟩ := h
  refine V_if_eq (tgt := 37) dX5_isTied_5 (by decide) g4 (fun q5 => ?_) (fun q5 => ?_)
  · have h := h.1 q5
    refine V_iconst dX5_isTied_37 ?_
    exact V_iret rfl (fun _ q => by cases q) (by decide) dX5_isTied_38 h
  · have h := h.2 q5
    refine V_aload_n 0 rfl rfl dX5_isTied_8 ?_
    refine V_iload_n 2 rfl rfl dX5_isTied_9 ?_
    refine V_cV (M' := mX5_has) (As := [.int (gI v2)]) (fun r => [.int (gI r)]) ok_X5_has ok2_X5_has sh_1 rfl (by decide) rfl rfl (Nat.le_of_ble_eq_true rfl) dX5_isTied_10 lk_RX5_m35 (by decide) (fun _ => rfl) h (fun r6 σ7 h => ?_)
    refine V_rng (fun hR8 => ?_)
    have h := h hR8
    obtain ⟨g9, h⟩ := h
    refine V_if_eq (tgt := 37) dX5_isTied_13 (by decide) g9 (fun q10 => ?_) (fun q10 => ?_)
    · have h := h.1 q10
      refine V_iconst dX5_isTied_37 ?_
      exact V_iret rfl (fun _ q => by cases q) (by decide) dX5_isTied_38 h
    · have h := h.2 q10
      refine V_aload_n 0 rfl rfl dX5_isTied_16 ?_
      refine V_getR (f := 0) ci_X5 sh_1 rfl (by decide) (c1 := 2) rfl dX5_isTied_17 lk_RX5_f11 ?_
      refine V_bipush (v := 6) (by decide) dX5_isTied_20 ?_
      refine V_aald (c1 := 9) sh_2 (by decide) (by decide) rfl dX5_isTied_22 ?_
      refine V_iload_n 1 rfl rfl dX5_isTied_23 ?_
      obtain ⟨g11, h⟩ := h
      refine V_iald sh_9 (by decide) g11 dX5_isTied_24 ?_
      refine V_iload_n 2 rfl rfl dX5_isTied_25 ?_
      refine V_ishr dX5_isTied_26 ?_
      refine V_iconst dX5_isTied_27 ?_
      refine V_iand dX5_isTied_28 ?_
      refine V_iconst dX5_isTied_29 ?_
      refine V_icmp_ne (tgt := 37) dX5_isTied_30 (by decide) (inI_z _) (by decide) (fun q12 => ?_) (fun q12 => ?_)
      · have h := h.1 q12
        refine V_iconst dX5_isTied_37 ?_
        exact V_iret rfl (fun _ q => by cases q) (by decide) dX5_isTied_38 h
      · have h := h.2 q12
        refine V_iconst dX5_isTied_33 ?_
        refine V_goto (tgt := 38) dX5_isTied_34 (by decide) ?_
        exact V_iret rfl (fun _ q => by cases q) (by decide) dX5_isTied_38 h
theorem eX5_isTied {X : Cx} {v1 : Int} {v2 : Int} {σ : Sg} {Q : Int → Sg → Prop} (h : GX5_isTied_0 X v1 v2 σ Q) : KX5_isTied X v1 v2 σ Q := V_enter (by decide) (Nat.le_of_ble_eq_true rfl) rfl h
def GX5_addTie_0 (X : Cx) (v1 : Int) (v2 : Int) (σ : Sg) (Q : Int → Sg → Prop) : Prop := VV X mX5_addTie 0 [(0, .ref (cxA X 1)), (1, .int (gI v1)), (2, .int (gI v2))] [] σ Q
set_option maxHeartbeats 2000000 in
set_option maxRecDepth 20000 in
theorem rX5_addTie_0 {X : Cx} {v1 : Int} {v2 : Int} {σ : Sg} {Q : Int → Sg → Prop} (h : Rng σ → KX5_has X v1 σ (fun r1 σ2 => Rng σ2 → (inI r1) ∧ ((r1 = 0 → Q (σ2 1 2) σ2) ∧ (¬ r1 = 0 → KX5_has X v2 σ2 (fun r6 σ7 => Rng σ7 → (inI r6) ∧ ((r6 = 0 → Q (σ7 1 2) σ7) ∧ (¬ r6 = 0 → (0 ≤ v1 ∧ v1 < 8) ∧ (0 ≤ v1 ∧ v1 < 8) ∧ (0 ≤ v2 ∧ v2 < 8) ∧ (0 ≤ v2 ∧ v2 < 8) ∧ (inI ((σ7 1 2) + 1)) ∧ Q ((σ7 1 2) + 1) (up2 (up2 (up2 σ7 9 v1.toNat (zor (σ7 9 v1.toNat) (zshl 1 v2))) 10 v2.toNat (zor (σ7 10 v2.toNat) (zshl 1 v1))) 1 2 ((σ7 1 2) + 1))))))))) : GX5_addTie_0 X v1 v2 σ Q := by
  unfold GX5_addTie_0
  refine V_rng (fun hR0 => ?_)
  have h := h hR0
  refine V_aload_n 0 rfl rfl dX5_addTie_0 ?_
  refine V_iload_n 1 rfl rfl dX5_addTie_1 ?_
  refine V_cV (M' := mX5_has) (As := [.int (gI v1)]) (fun r => [.int (gI r)]) ok_X5_has ok2_X5_has sh_1 rfl (by decide) rfl rfl (Nat.le_of_ble_eq_true rfl) dX5_addTie_2 lk_RX5_m35 (by decide) (fun _ => rfl) h (fun r1 σ2 h => ?_)
  refine V_rng (fun hR3 => ?_)
  have h := h hR3
  obtain ⟨g4, h⟩ := h
  refine V_if_eq (tgt := 56) dX5_addTie_5 (by decide) g4 (fun q5 => ?_) (fun q5 => ?_)
  · have h := h.1 q5
    refine V_aload_n 0 rfl rfl dX5_addTie_56 ?_
    refine V_getI (f := 2) ci_X5 sh_1 rfl (by decide) dX5_addTie_57 lk_RX5_f39 ?_
    exact V_iret rfl (fun _ q => by cases q) (vp_nar_int _) dX5_addTie_60 h
  · have h := h.2 q5
    refine V_aload_n 0 rfl rfl dX5_addTie_8 ?_
    refine V_iload_n 2 rfl rfl dX5_addTie_9 ?_
    refine V_cV (M' := mX5_has) (As := [.int (gI v2)]) (fun r => [.int (gI r)]) ok_X5_has ok2_X5_has sh_1 rfl (by decide) rfl rfl (Nat.le_of_ble_eq_true rfl) dX5_addTie_10 lk_RX5_m35 (by decide) (fun _ => rfl) h (fun r6 σ7 h => ?_)
    refine V_rng (fun hR8 => ?_)
    have h := h hR8
    obtain ⟨g9, h⟩ := h
    refine V_if_eq (tgt := 56) dX5_addTie_13 (by decide) g9 (fun q10 => ?_) (fun q10 => ?_)
    · have h := h.1 q10
      refine V_aload_n 0 rfl rfl dX5_addTie_56 ?_
      refine V_getI (f := 2) ci_X5 sh_1 rfl (by decide) dX5_addTie_57 lk_RX5_f39 ?_
      exact V_iret rfl (fun _ q => by cases q) (vp_nar_int _) dX5_addTie_60 h
    · have h := h.2 q10
      refine V_aload_n 0 rfl rfl dX5_addTie_16 ?_
      refine V_getR (f := 0) ci_X5 sh_1 rfl (by decide) (c1 := 2) rfl dX5_addTie_17 lk_RX5_f11 ?_
      refine V_bipush (v := 6) (by decide) dX5_addTie_20 ?_
      refine V_aald (c1 := 9) sh_2 (by decide) (by decide) rfl dX5_addTie_22 ?_
      refine V_iload_n 1 rfl rfl dX5_addTie_23 ?_
      refine V_dup2 rfl rfl dX5_addTie_24 ?_
      obtain ⟨g11, h⟩ := h
      refine V_iald sh_9 (by decide) g11 dX5_addTie_25 ?_
      refine V_iconst dX5_addTie_26 ?_
      refine V_iload_n 2 rfl rfl dX5_addTie_27 ?_
      refine V_ishl dX5_addTie_28 ?_
      refine V_ior dX5_addTie_29 ?_
      obtain ⟨g12, h⟩ := h
      refine V_iast sh_9 (by decide) g12 (inI_z _) dX5_addTie_30 ?_
      refine V_aload_n 0 rfl rfl dX5_addTie_31 ?_
      refine V_getR (f := 0) ci_X5 sh_1 rfl (by decide) (c1 := 2) rfl dX5_addTie_32 lk_RX5_f11 ?_
      refine V_bipush (v := 7) (by decide) dX5_addTie_35 ?_
      refine V_aald (c1 := 10) sh_2 (by decide) (by decide) rfl dX5_addTie_37 ?_
      refine V_iload_n 2 rfl rfl dX5_addTie_38 ?_
      refine V_dup2 rfl rfl dX5_addTie_39 ?_
      obtain ⟨g13, h⟩ := h
      refine V_iald sh_10 (by decide) g13 dX5_addTie_40 ?_
      refine V_iconst dX5_addTie_41 ?_
      refine V_iload_n 1 rfl rfl dX5_addTie_42 ?_
      refine V_ishl dX5_addTie_43 ?_
      refine V_ior dX5_addTie_44 ?_
      obtain ⟨g14, h⟩ := h
      refine V_iast sh_10 (by decide) g14 (inI_z _) dX5_addTie_45 ?_
      refine V_aload_n 0 rfl rfl dX5_addTie_46 ?_
      refine V_dup rfl dX5_addTie_47 ?_
      refine V_getI (f := 2) ci_X5 sh_1 rfl (by decide) dX5_addTie_48 lk_RX5_f39 ?_
      refine V_iconst dX5_addTie_51 ?_
      refine V_iadd dX5_addTie_52 ?_
      obtain ⟨g15, h⟩ := h
      refine V_putI (f := 2) ci_X5 sh_1 rfl (by decide) rfl rfl g15 dX5_addTie_53 lk_RX5_f39 ?_
      refine V_aload_n 0 rfl rfl dX5_addTie_56 ?_
      refine V_getI (f := 2) ci_X5 sh_1 rfl (by decide) dX5_addTie_57 lk_RX5_f39 ?_
      exact V_iret rfl (fun _ q => by cases q) (vp_nar_int _) dX5_addTie_60 h
theorem eX5_addTie {X : Cx} {v1 : Int} {v2 : Int} {σ : Sg} {Q : Int → Sg → Prop} (h : GX5_addTie_0 X v1 v2 σ Q) : KX5_addTie X v1 v2 σ Q := V_enter (by decide) (Nat.le_of_ble_eq_true rfl) rfl h
def GX10_isSpelt_0 (X : Cx) (v0 : Int) (v2 : Int) (v3 : Int) (σ : Sg) (Q : Int → Sg → Prop) : Prop := VV X mX10_isSpelt 0 [(0, .int (gI v0)), (1, .ref (cxA X 13)), (2, .int (gI v2)), (3, .int (gI v3))] [] σ Q
def GX10_isSpelt_3 (X : Cx) (v0 : Int) (v2 : Int) (v3 : Int) (v4 : Int) (σ : Sg) (Q : Int → Sg → Prop) : Prop := VV X mX10_isSpelt 3 [(0, .int (gI v0)), (1, .ref (cxA X 13)), (2, .int (gI v2)), (3, .int (gI v3)), (4, .int (gI v4))] [] σ Q
def GX10_isSpelt_29 (X : Cx) (v0 : Int) (v2 : Int) (v3 : Int) (v4 : Int) (s0 : Int) (σ : Sg) (Q : Int → Sg → Prop) : Prop := VV X mX10_isSpelt 29 [(0, .int (gI v0)), (1, .ref (cxA X 13)), (2, .int (gI v2)), (3, .int (gI v3)), (4, .int (gI v4))] [.int (gI s0)] σ Q
set_option maxHeartbeats 2000000 in
set_option maxRecDepth 20000 in
theorem rX10_isSpelt_0 {X : Cx} {v0 : Int} {v2 : Int} {v3 : Int} {σ : Sg} {Q : Int → Sg → Prop} (h : Rng σ → GX10_isSpelt_3 X v0 v2 v3 0 σ Q) : GX10_isSpelt_0 X v0 v2 v3 σ Q := by
  unfold GX10_isSpelt_0
  refine V_rng (fun hR0 => ?_)
  have h := h hR0
  refine V_iconst dX10_isSpelt_0 ?_
  refine V_istore (L' := [(4, .int (gI 0)), (0, .int (gI v0)), (1, .ref (cxA X 13)), (2, .int (gI v2)), (3, .int (gI v3))]) (by decide) rfl dX10_isSpelt_1 ?_
  exact V_sub [1, 2, 3, 4, 0] rfl h
set_option maxHeartbeats 2000000 in
set_option maxRecDepth 20000 in
theorem rX10_isSpelt_3 {X : Cx} {v0 : Int} {v2 : Int} {v3 : Int} {v4 : Int} {σ : Sg} {Q : Int → Sg → Prop} (h : Rng σ → (inI v4) ∧ ((8 ≤ v4 → Q 1 σ) ∧ (v4 < 8 → (inI (v2 + v4)) ∧ (inI v3) ∧ ((v3 ≤ (v2 + v4) → GX10_isSpelt_29 X v0 v2 v3 v4 32 σ Q) ∧ ((v2 + v4) < v3 → (0 ≤ v2 + v4 ∧ v2 + v4 < 160) ∧ GX10_isSpelt_29 X v0 v2 v3 v4 (σ 13 ((v2 + v4).toNat)) σ Q))))) : GX10_isSpelt_3 X v0 v2 v3 v4 σ Q := by
  unfold GX10_isSpelt_3
  refine V_rng (fun hR0 => ?_)
  have h := h hR0
  refine V_iload 4 rfl dX10_isSpelt_3 ?_
  refine V_bipush (v := 8) (by decide) dX10_isSpelt_5 ?_
  obtain ⟨g1, h⟩ := h
  refine V_icmp_ge (tgt := 56) dX10_isSpelt_7 (by decide) g1 (by decide) (fun q2 => ?_) (fun q2 => ?_)
  · have h := h.1 q2
    refine V_iconst dX10_isSpelt_56 ?_
    exact V_iret rfl (fun _ q => by cases q) (by decide) dX10_isSpelt_57 h
  · have h := h.2 q2
    refine V_iload_n 2 rfl rfl dX10_isSpelt_10 ?_
    refine V_iload 4 rfl dX10_isSpelt_11 ?_
    refine V_iadd dX10_isSpelt_13 ?_
    refine V_iload_n 3 rfl rfl dX10_isSpelt_14 ?_
    obtain ⟨g3, h⟩ := h
    obtain ⟨g4, h⟩ := h
    refine V_icmp_ge (tgt := 27) dX10_isSpelt_15 (by decide) g3 g4 (fun q5 => ?_) (fun q5 => ?_)
    · have h := h.1 q5
      refine V_bipush (v := 32) (by decide) dX10_isSpelt_27 ?_
      exact h
    · have h := h.2 q5
      refine V_aload_n 1 rfl rfl dX10_isSpelt_18 ?_
      refine V_iload_n 2 rfl rfl dX10_isSpelt_19 ?_
      refine V_iload 4 rfl dX10_isSpelt_20 ?_
      refine V_iadd dX10_isSpelt_22 ?_
      obtain ⟨g6, h⟩ := h
      refine V_cald sh_13 (by decide) g6 dX10_isSpelt_23 ?_
      refine V_goto (tgt := 29) dX10_isSpelt_24 (by decide) ?_
      exact h
set_option maxHeartbeats 2000000 in
set_option maxRecDepth 20000 in
theorem rX10_isSpelt_29 {X : Cx} {v0 : Int} {v2 : Int} {v3 : Int} {v4 : Int} {s0 : Int} {σ : Sg} {Q : Int → Sg → Prop} (h : Rng σ → (0 ≤ (8 * v0) + v4 ∧ (8 * v0) + v4 < 120) ∧ (inI (namC ((8 * v0) + v4).toNat)) ∧ (inI s0) ∧ (((namC ((8 * v0) + v4).toNat) = s0 → GX10_isSpelt_3 X v0 v2 v3 (v4 + 1) σ Q) ∧ (¬ (namC ((8 * v0) + v4).toNat) = s0 → Q 0 σ))) : GX10_isSpelt_29 X v0 v2 v3 v4 s0 σ Q := by
  unfold GX10_isSpelt_29
  refine V_rng (fun hR0 => ?_)
  have h := h hR0
  refine V_istore (L' := [(5, .int (gI s0)), (0, .int (gI v0)), (1, .ref (cxA X 13)), (2, .int (gI v2)), (3, .int (gI v3)), (4, .int (gI v4))]) (by decide) rfl dX10_isSpelt_29 ?_
  refine V_ldcS rfl dX10_isSpelt_31 ?_
  refine V_bipush (v := 8) (by decide) dX10_isSpelt_33 ?_
  refine V_iload_n 1 rfl rfl dX10_isSpelt_35 ?_
  refine V_imul dX10_isSpelt_36 ?_
  refine V_iload 5 rfl dX10_isSpelt_37 ?_
  refine V_iadd dX10_isSpelt_39 ?_
  obtain ⟨g1, h⟩ := h
  refine V_charAt g1 dX10_isSpelt_40 ⟨rfl, rfl, by decide, by decide, Nat.le_of_ble_eq_true rfl⟩ ?_
  refine V_iload 0 rfl dX10_isSpelt_43 ?_
  obtain ⟨g2, h⟩ := h
  obtain ⟨g3, h⟩ := h
  refine V_icmp_eq (tgt := 50) dX10_isSpelt_45 (by decide) g2 g3 (fun q4 => ?_) (fun q4 => ?_)
  · have h := h.1 q4
    refine V_iinc (L' := [(4, .int (gI (v4 + 1))), (5, .int (gI s0)), (0, .int (gI v0)), (1, .ref (cxA X 13)), (2, .int (gI v2)), (3, .int (gI v3))]) 5 rfl (by decide) rfl dX10_isSpelt_50 ?_
    refine V_goto (tgt := 3) dX10_isSpelt_53 (by decide) ?_
    exact V_sub [2, 3, 4, 5, 0] rfl h
  · have h := h.2 q4
    refine V_iconst dX10_isSpelt_48 ?_
    exact V_iret rfl (fun _ q => by cases q) (by decide) dX10_isSpelt_49 h
theorem eX10_isSpelt {X : Cx} {v0 : Int} {v2 : Int} {v3 : Int} {σ : Sg} {Q : Int → Sg → Prop} (h : GX10_isSpelt_0 X v0 v2 v3 σ Q) : KX10_isSpelt X v0 v2 v3 σ Q := V_enter (by decide) (Nat.le_of_ble_eq_true rfl) rfl h
def GX10_spelt_0 (X : Cx) (v1 : Int) (v2 : Int) (σ : Sg) (Q : Int → Sg → Prop) : Prop := VV X mX10_spelt 0 [(0, .ref (cxA X 13)), (1, .int (gI v1)), (2, .int (gI v2))] [] σ Q
def GX10_spelt_22 (X : Cx) (v1 : Int) (v2 : Int) (v3 : Int) (σ : Sg) (Q : Int → Sg → Prop) : Prop := VV X mX10_spelt 22 [(0, .ref (cxA X 13)), (1, .int (gI v1)), (2, .int (gI v2)), (3, .int (gI v3))] [] σ Q
set_option maxHeartbeats 2000000 in
set_option maxRecDepth 20000 in
theorem rX10_spelt_0 {X : Cx} {v1 : Int} {v2 : Int} {σ : Sg} {Q : Int → Sg → Prop} (h : Rng σ → (inI v1) ∧ ((v1 < 0 → Q ((-1)) σ) ∧ (0 ≤ v1 → (inI v2) ∧ ((160 < v2 → Q ((-1)) σ) ∧ (v2 ≤ 160 → (inI (v2 - v1)) ∧ (((v2 - v1) ≤ 8 → GX10_spelt_22 X v1 v2 0 σ Q) ∧ (8 < (v2 - v1) → Q ((-1)) σ))))))) : GX10_spelt_0 X v1 v2 σ Q := by
  unfold GX10_spelt_0
  refine V_rng (fun hR0 => ?_)
  have h := h hR0
  refine V_iload_n 1 rfl rfl dX10_spelt_0 ?_
  obtain ⟨g1, h⟩ := h
  refine V_if_lt (tgt := 18) dX10_spelt_1 (by decide) g1 (fun q2 => ?_) (fun q2 => ?_)
  · have h := h.1 q2
    refine V_iconst dX10_spelt_18 ?_
    exact V_iret rfl (fun _ q => by cases q) (vp_nar_int _) dX10_spelt_19 h
  · have h := h.2 q2
    refine V_iload_n 2 rfl rfl dX10_spelt_4 ?_
    refine V_aload_n 0 rfl rfl dX10_spelt_5 ?_
    refine V_alen sh_13 (by decide) (by decide) dX10_spelt_6 ?_
    obtain ⟨g3, h⟩ := h
    refine V_icmp_gt (tgt := 18) dX10_spelt_7 (by decide) g3 (by decide) (fun q4 => ?_) (fun q4 => ?_)
    · have h := h.1 q4
      refine V_iconst dX10_spelt_18 ?_
      exact V_iret rfl (fun _ q => by cases q) (vp_nar_int _) dX10_spelt_19 h
    · have h := h.2 q4
      refine V_iload_n 2 rfl rfl dX10_spelt_10 ?_
      refine V_iload_n 1 rfl rfl dX10_spelt_11 ?_
      refine V_isub dX10_spelt_12 ?_
      refine V_bipush (v := 8) (by decide) dX10_spelt_13 ?_
      obtain ⟨g5, h⟩ := h
      refine V_icmp_le (tgt := 20) dX10_spelt_15 (by decide) g5 (by decide) (fun q6 => ?_) (fun q6 => ?_)
      · have h := h.1 q6
        refine V_iconst dX10_spelt_20 ?_
        refine V_istore_n (L' := [(3, .int (gI 0)), (0, .ref (cxA X 13)), (1, .int (gI v1)), (2, .int (gI v2))]) rfl (by decide) rfl dX10_spelt_21 ?_
        exact V_sub [1, 2, 3, 0] rfl h
      · have h := h.2 q6
        refine V_iconst dX10_spelt_18 ?_
        exact V_iret rfl (fun _ q => by cases q) (vp_nar_int _) dX10_spelt_19 h
set_option maxHeartbeats 2000000 in
set_option maxRecDepth 20000 in
theorem rX10_spelt_22 {X : Cx} {v1 : Int} {v2 : Int} {v3 : Int} {σ : Sg} {Q : Int → Sg → Prop} (h : Rng σ → (inI v3) ∧ ((15 ≤ v3 → Q ((-1)) σ) ∧ (v3 < 15 → KX10_isSpelt X v3 v1 v2 σ (fun r3 σ4 => Rng σ4 → (inI r3) ∧ ((r3 = 0 → GX10_spelt_22 X v1 v2 (v3 + 1) σ4 Q) ∧ (¬ r3 = 0 → Q v3 σ4)))))) : GX10_spelt_22 X v1 v2 v3 σ Q := by
  unfold GX10_spelt_22
  refine V_rng (fun hR0 => ?_)
  have h := h hR0
  refine V_iload_n 3 rfl rfl dX10_spelt_22 ?_
  refine V_bipush (v := 15) (by decide) dX10_spelt_23 ?_
  obtain ⟨g1, h⟩ := h
  refine V_icmp_ge (tgt := 46) dX10_spelt_25 (by decide) g1 (by decide) (fun q2 => ?_) (fun q2 => ?_)
  · have h := h.1 q2
    refine V_iconst dX10_spelt_46 ?_
    exact V_iret rfl (fun _ q => by cases q) (vp_nar_int _) dX10_spelt_47 h
  · have h := h.2 q2
    refine V_iload_n 3 rfl rfl dX10_spelt_28 ?_
    refine V_aload_n 0 rfl rfl dX10_spelt_29 ?_
    refine V_iload_n 1 rfl rfl dX10_spelt_30 ?_
    refine V_iload_n 2 rfl rfl dX10_spelt_31 ?_
    refine V_cS (M' := mX10_isSpelt) (As := [.int (gI v3), .ref (cxA X 13), .int (gI v1), .int (gI v2)]) (fun r => [.int (gI r)]) ok_X10_isSpelt ok2_X10_isSpelt rfl rfl (Nat.le_of_ble_eq_true rfl) dX10_spelt_32 lk_RX10_m29 (by decide) (fun _ => rfl) h (fun r3 σ4 h => ?_)
    refine V_rng (fun hR5 => ?_)
    have h := h hR5
    obtain ⟨g6, h⟩ := h
    refine V_if_eq (tgt := 40) dX10_spelt_35 (by decide) g6 (fun q7 => ?_) (fun q7 => ?_)
    · have h := h.1 q7
      refine V_iinc (L' := [(3, .int (gI (v3 + 1))), (0, .ref (cxA X 13)), (1, .int (gI v1)), (2, .int (gI v2))]) 3 rfl (by decide) rfl dX10_spelt_40 ?_
      refine V_goto (tgt := 22) dX10_spelt_43 (by decide) ?_
      exact V_sub [1, 2, 3, 0] rfl h
    · have h := h.2 q7
      refine V_iload_n 3 rfl rfl dX10_spelt_38 ?_
      exact V_iret rfl (fun _ q => by cases q) (vp_nar_int _) dX10_spelt_39 h
theorem eX10_spelt {X : Cx} {v1 : Int} {v2 : Int} {σ : Sg} {Q : Int → Sg → Prop} (h : GX10_spelt_0 X v1 v2 σ Q) : KX10_spelt X v1 v2 σ Q := V_enter (by decide) (Nat.le_of_ble_eq_true rfl) rfl h
def GX10_areWords_0 (X : Cx) (v0 : Int) (σ : Sg) (Q : Int → Sg → Prop) : Prop := VV X mX10_areWords 0 [(0, .int (gI v0))] [] σ Q
set_option maxHeartbeats 2000000 in
set_option maxRecDepth 20000 in
theorem rX10_areWords_0 {X : Cx} {v0 : Int} {σ : Sg} {Q : Int → Sg → Prop} (h : Rng σ → KX11_isWithin X v0 32768 σ (fun r1 σ2 => Rng σ2 → (r1 = 0 ∨ r1 = 1) ∧ Q r1 σ2)) : GX10_areWords_0 X v0 σ Q := by
  unfold GX10_areWords_0
  refine V_rng (fun hR0 => ?_)
  have h := h hR0
  refine V_iload_n 0 rfl rfl dX10_areWords_0 ?_
  refine V_ldc (x := 32768) dX10_areWords_1 lk_RX10_c11 (by decide) ?_
  refine V_cN (M' := mX11_isWithin) (As := [.int (gI v0), .int (gI 32768)]) (fun r => [.int (gI r)]) ok_X11_isWithin ok2_X11_isWithin rfl rfl (Nat.le_of_ble_eq_true rfl) dX10_areWords_3 lk_RX10_m12 (by decide) (fun _ => rfl) h (fun r1 σ2 h => ?_)
  refine V_rng (fun hR3 => ?_)
  have h := h hR3
  obtain ⟨g4, h⟩ := h
  exact V_iret rfl (fun _ q => by cases q) (nar_Z g4).1 dX10_areWords_6 h
theorem eX10_areWords {X : Cx} {v0 : Int} {σ : Sg} {Q : Int → Sg → Prop} (h : GX10_areWords_0 X v0 σ Q) : KX10_areWords X v0 σ Q := V_enter (by decide) (Nat.le_of_ble_eq_true rfl) rfl h
