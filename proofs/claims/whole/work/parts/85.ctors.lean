/-! printed by program: the constructors -/
abbrev zA (Y : Nat → ClassId) (t n : Nat) : va_E := .inl (Y t, n, .inl (fun _ => 0))
def dfsX4 : List Value := [.null, .null, .int 0]
theorem dfsX4_ok : ∀ j, j < 3 → defaultValue (tyX4 j) = vp_V dfsX4 j := fun j hj => by
  rcases (show j = 0 ∨ j = 1 ∨ j = 2 by omega) with rfl | rfl | rfl <;> rfl
abbrev mX4_init : MI := (yX4_init, cX4_init, 1, none, { frames := 1, cells := 2, slots := 48, locals := 12 })
def WX4 (Y : Nat → ClassId) (h : Nat) (u : Nat → Nat) : va_W := [(h, .inr (3, [.ref (u 0), .ref (u 1), .int 0])), ((u 0), zA Y 0 24), ((u 1), zA Y 0 24)]
set_option maxHeartbeats 4000000 in
set_option maxRecDepth 100000 in
theorem ct_X4 (l : Launch) (D : va_G) (Y : Nat → ClassId) : CtB l D Y mX4_init 3 dfsX4 [0] (WX4 Y) := by
  refine B_enter (by decide) rfl rfl (by decide) (fun h0 => ?_)
  show BB l D Y mX4_init 0 [(0, .ref h0)] [] [] [(h0, .inr (3, [.null, .null, .int 0]))] 0 0 _
  refine B_aload 0 rfl rfl dX4_init_0 ?_
  refine B_obj (gm_1 68 rfl rfl) (gm_1 28 rfl rfl) (gm_1 29 rfl rfl) (Nat.le_of_ble_eq_true rfl) (Nat.le_of_ble_eq_true rfl) dX4_init_1 ?_
  refine B_aload 0 rfl rfl dX4_init_4 ?_
  refine B_bipush (v := 24) (by decide) dX4_init_5 ?_
  refine B_newa (t := 0) (n := 24) rfl (by decide) rfl (gm_1 56 rfl rfl) (by decide) (by decide) (Nat.le_of_ble_eq_true rfl) (Nat.le_of_ble_eq_true rfl) (Nat.le_of_ble_eq_true rfl) dX4_init_7 (fun q1 => ?_)
  refine B_putF (f := 0) ci_X4 (by decide) (gm_1 69 rfl rfl) rfl rfl rfl rfl rfl rfl (Nat.le_of_ble_eq_true rfl) dX4_init_9 ?_
  refine B_aload 0 rfl rfl dX4_init_12 ?_
  refine B_bipush (v := 24) (by decide) dX4_init_13 ?_
  refine B_newa (t := 0) (n := 24) rfl (by decide) rfl (gm_1 56 rfl rfl) (by decide) (by decide) (Nat.le_of_ble_eq_true rfl) (Nat.le_of_ble_eq_true rfl) (Nat.le_of_ble_eq_true rfl) dX4_init_15 (fun q2 => ?_)
  refine B_putF (f := 1) ci_X4 (by decide) (gm_1 71 rfl rfl) rfl rfl rfl rfl rfl rfl (Nat.le_of_ble_eq_true rfl) dX4_init_17 ?_
  exact B_ret ⟨by decide, fun i => [q1, q2].getD i 0, rfl⟩ (Nat.le_of_ble_eq_true rfl) (Nat.le_of_ble_eq_true rfl) dX4_init_20
def dfsX9 : List Value := [.null, .null, .null, .null, .null, .null, .int 0, .int 0, .int 0, .int 0, .int 0, .int 0]
theorem dfsX9_ok : ∀ j, j < 12 → defaultValue (tyX9 j) = vp_V dfsX9 j := fun j hj => by
  rcases (show j = 0 ∨ j = 1 ∨ j = 2 ∨ j = 3 ∨ j = 4 ∨ j = 5 ∨ j = 6 ∨ j = 7 ∨ j = 8 ∨ j = 9 ∨ j = 10 ∨ j = 11 by omega) with rfl | rfl | rfl | rfl | rfl | rfl | rfl | rfl | rfl | rfl | rfl | rfl <;> rfl
abbrev mX9_init : MI := (yX9_init, cX9_init, 1, none, { frames := 1, cells := 6, slots := 1536, locals := 12 })
def WX9 (Y : Nat → ClassId) (h : Nat) (u : Nat → Nat) : va_W := [(h, .inr (8, [.ref (u 0), .ref (u 1), .ref (u 2), .ref (u 3), .ref (u 4), .ref (u 5), .int 0, .int 0, .int (-1), .int 0, .int 0, .int 0])), ((u 0), zA Y 0 256), ((u 1), zA Y 0 256), ((u 2), zA Y 0 256), ((u 3), zA Y 0 256), ((u 4), zA Y 0 256), ((u 5), zA Y 0 256)]
set_option maxHeartbeats 4000000 in
set_option maxRecDepth 100000 in
theorem ct_X9 (l : Launch) (D : va_G) (Y : Nat → ClassId) : CtB l D Y mX9_init 8 dfsX9 [0] (WX9 Y) := by
  refine B_enter (by decide) rfl rfl (by decide) (fun h0 => ?_)
  show BB l D Y mX9_init 0 [(0, .ref h0)] [] [] [(h0, .inr (8, [.null, .null, .null, .null, .null, .null, .int 0, .int 0, .int 0, .int 0, .int 0, .int 0]))] 0 0 _
  refine B_aload 0 rfl rfl dX9_init_0 ?_
  refine B_obj (gm_1 109 rfl rfl) (gm_1 28 rfl rfl) (gm_1 29 rfl rfl) (Nat.le_of_ble_eq_true rfl) (Nat.le_of_ble_eq_true rfl) dX9_init_1 ?_
  refine B_aload 0 rfl rfl dX9_init_4 ?_
  refine B_sipush (v := 256) (by decide) dX9_init_5 ?_
  refine B_newa (t := 0) (n := 256) rfl (by decide) rfl (gm_1 56 rfl rfl) (by decide) (by decide) (Nat.le_of_ble_eq_true rfl) (Nat.le_of_ble_eq_true rfl) (Nat.le_of_ble_eq_true rfl) dX9_init_8 (fun q1 => ?_)
  refine B_putF (f := 0) ci_X9 (by decide) (gm_1 110 rfl rfl) rfl rfl rfl rfl rfl rfl (Nat.le_of_ble_eq_true rfl) dX9_init_10 ?_
  refine B_aload 0 rfl rfl dX9_init_13 ?_
  refine B_sipush (v := 256) (by decide) dX9_init_14 ?_
  refine B_newa (t := 0) (n := 256) rfl (by decide) rfl (gm_1 56 rfl rfl) (by decide) (by decide) (Nat.le_of_ble_eq_true rfl) (Nat.le_of_ble_eq_true rfl) (Nat.le_of_ble_eq_true rfl) dX9_init_17 (fun q2 => ?_)
  refine B_putF (f := 1) ci_X9 (by decide) (gm_1 113 rfl rfl) rfl rfl rfl rfl rfl rfl (Nat.le_of_ble_eq_true rfl) dX9_init_19 ?_
  refine B_aload 0 rfl rfl dX9_init_22 ?_
  refine B_sipush (v := 256) (by decide) dX9_init_23 ?_
  refine B_newa (t := 0) (n := 256) rfl (by decide) rfl (gm_1 56 rfl rfl) (by decide) (by decide) (Nat.le_of_ble_eq_true rfl) (Nat.le_of_ble_eq_true rfl) (Nat.le_of_ble_eq_true rfl) dX9_init_26 (fun q3 => ?_)
  refine B_putF (f := 2) ci_X9 (by decide) (gm_1 115 rfl rfl) rfl rfl rfl rfl rfl rfl (Nat.le_of_ble_eq_true rfl) dX9_init_28 ?_
  refine B_aload 0 rfl rfl dX9_init_31 ?_
  refine B_sipush (v := 256) (by decide) dX9_init_32 ?_
  refine B_newa (t := 0) (n := 256) rfl (by decide) rfl (gm_1 56 rfl rfl) (by decide) (by decide) (Nat.le_of_ble_eq_true rfl) (Nat.le_of_ble_eq_true rfl) (Nat.le_of_ble_eq_true rfl) dX9_init_35 (fun q4 => ?_)
  refine B_putF (f := 3) ci_X9 (by decide) (gm_1 116 rfl rfl) rfl rfl rfl rfl rfl rfl (Nat.le_of_ble_eq_true rfl) dX9_init_37 ?_
  refine B_aload 0 rfl rfl dX9_init_40 ?_
  refine B_sipush (v := 256) (by decide) dX9_init_41 ?_
  refine B_newa (t := 0) (n := 256) rfl (by decide) rfl (gm_1 56 rfl rfl) (by decide) (by decide) (Nat.le_of_ble_eq_true rfl) (Nat.le_of_ble_eq_true rfl) (Nat.le_of_ble_eq_true rfl) dX9_init_44 (fun q5 => ?_)
  refine B_putF (f := 4) ci_X9 (by decide) (gm_1 117 rfl rfl) rfl rfl rfl rfl rfl rfl (Nat.le_of_ble_eq_true rfl) dX9_init_46 ?_
  refine B_aload 0 rfl rfl dX9_init_49 ?_
  refine B_sipush (v := 256) (by decide) dX9_init_50 ?_
  refine B_newa (t := 0) (n := 256) rfl (by decide) rfl (gm_1 56 rfl rfl) (by decide) (by decide) (Nat.le_of_ble_eq_true rfl) (Nat.le_of_ble_eq_true rfl) (Nat.le_of_ble_eq_true rfl) dX9_init_53 (fun q6 => ?_)
  refine B_putF (f := 5) ci_X9 (by decide) (gm_1 118 rfl rfl) rfl rfl rfl rfl rfl rfl (Nat.le_of_ble_eq_true rfl) dX9_init_55 ?_
  refine B_aload 0 rfl rfl dX9_init_58 ?_
  refine B_iconst (v := (-1)) (by decide) dX9_init_59 ?_
  refine B_put (f := 8) ci_X9 (by decide) (gm_1 123 rfl rfl) rfl rfl rfl rfl (Nat.le_of_ble_eq_true rfl) dX9_init_60 ?_
  exact B_ret ⟨by decide, fun i => [q1, q2, q3, q4, q5, q6].getD i 0, rfl⟩ (Nat.le_of_ble_eq_true rfl) (Nat.le_of_ble_eq_true rfl) dX9_init_63
def dfsX8 : List Value := [.null, .null, .null]
theorem dfsX8_ok : ∀ j, j < 3 → defaultValue (tyX8 j) = vp_V dfsX8 j := fun j hj => by
  rcases (show j = 0 ∨ j = 1 ∨ j = 2 by omega) with rfl | rfl | rfl <;> rfl
abbrev mX8_init : MI := (yX8_init, cX8_init, 1, none, { frames := 1, cells := 3, slots := 24, locals := 12 })
def WX8 (Y : Nat → ClassId) (h : Nat) (u : Nat → Nat) : va_W := [(h, .inr (7, [.ref (u 0), .ref (u 1), .ref (u 2)])), ((u 0), zA Y 0 8), ((u 1), zA Y 0 8), ((u 2), zA Y 0 8)]
set_option maxHeartbeats 4000000 in
set_option maxRecDepth 100000 in
theorem ct_X8 (l : Launch) (D : va_G) (Y : Nat → ClassId) : CtB l D Y mX8_init 7 dfsX8 [0] (WX8 Y) := by
  refine B_enter (by decide) rfl rfl (by decide) (fun h0 => ?_)
  show BB l D Y mX8_init 0 [(0, .ref h0)] [] [] [(h0, .inr (7, [.null, .null, .null]))] 0 0 _
  refine B_aload 0 rfl rfl dX8_init_0 ?_
  refine B_obj (gm_1 186 rfl rfl) (gm_1 28 rfl rfl) (gm_1 29 rfl rfl) (Nat.le_of_ble_eq_true rfl) (Nat.le_of_ble_eq_true rfl) dX8_init_1 ?_
  refine B_aload 0 rfl rfl dX8_init_4 ?_
  refine B_bipush (v := 8) (by decide) dX8_init_5 ?_
  refine B_newa (t := 0) (n := 8) rfl (by decide) rfl (gm_1 56 rfl rfl) (by decide) (by decide) (Nat.le_of_ble_eq_true rfl) (Nat.le_of_ble_eq_true rfl) (Nat.le_of_ble_eq_true rfl) dX8_init_7 (fun q1 => ?_)
  refine B_putF (f := 0) ci_X8 (by decide) (gm_1 187 rfl rfl) rfl rfl rfl rfl rfl rfl (Nat.le_of_ble_eq_true rfl) dX8_init_9 ?_
  refine B_aload 0 rfl rfl dX8_init_12 ?_
  refine B_bipush (v := 8) (by decide) dX8_init_13 ?_
  refine B_newa (t := 0) (n := 8) rfl (by decide) rfl (gm_1 56 rfl rfl) (by decide) (by decide) (Nat.le_of_ble_eq_true rfl) (Nat.le_of_ble_eq_true rfl) (Nat.le_of_ble_eq_true rfl) dX8_init_15 (fun q2 => ?_)
  refine B_putF (f := 1) ci_X8 (by decide) (gm_1 189 rfl rfl) rfl rfl rfl rfl rfl rfl (Nat.le_of_ble_eq_true rfl) dX8_init_17 ?_
  refine B_aload 0 rfl rfl dX8_init_20 ?_
  refine B_bipush (v := 8) (by decide) dX8_init_21 ?_
  refine B_newa (t := 0) (n := 8) rfl (by decide) rfl (gm_1 56 rfl rfl) (by decide) (by decide) (Nat.le_of_ble_eq_true rfl) (Nat.le_of_ble_eq_true rfl) (Nat.le_of_ble_eq_true rfl) dX8_init_23 (fun q3 => ?_)
  refine B_putF (f := 2) ci_X8 (by decide) (gm_1 191 rfl rfl) rfl rfl rfl rfl rfl rfl (Nat.le_of_ble_eq_true rfl) dX8_init_25 ?_
  exact B_ret ⟨by decide, fun i => [q1, q2, q3].getD i 0, rfl⟩ (Nat.le_of_ble_eq_true rfl) (Nat.le_of_ble_eq_true rfl) dX8_init_28
def dfsX1 : List Value := [.null, .null, .null, .int 0]
theorem dfsX1_ok : ∀ j, j < 4 → defaultValue (tyX1 j) = vp_V dfsX1 j := fun j hj => by
  rcases (show j = 0 ∨ j = 1 ∨ j = 2 ∨ j = 3 by omega) with rfl | rfl | rfl | rfl <;> rfl
abbrev mX1_init : MI := (yX1_init, cX1_init, 1, none, { frames := 1, cells := 3, slots := 24, locals := 12 })
def WX1 (Y : Nat → ClassId) (h : Nat) (u : Nat → Nat) : va_W := [(h, .inr (1, [.ref (u 0), .ref (u 1), .ref (u 2), .int 0])), ((u 0), zA Y 0 8), ((u 1), zA Y 0 8), ((u 2), zA Y 0 8)]
set_option maxHeartbeats 4000000 in
set_option maxRecDepth 100000 in
theorem ct_X1 (l : Launch) (D : va_G) (Y : Nat → ClassId) : CtB l D Y mX1_init 1 dfsX1 [0] (WX1 Y) := by
  refine B_enter (by decide) rfl rfl (by decide) (fun h0 => ?_)
  show BB l D Y mX1_init 0 [(0, .ref h0)] [] [] [(h0, .inr (1, [.null, .null, .null, .int 0]))] 0 0 _
  refine B_aload 0 rfl rfl dX1_init_0 ?_
  refine B_obj (gm_1 204 rfl rfl) (gm_1 28 rfl rfl) (gm_1 29 rfl rfl) (Nat.le_of_ble_eq_true rfl) (Nat.le_of_ble_eq_true rfl) dX1_init_1 ?_
  refine B_aload 0 rfl rfl dX1_init_4 ?_
  refine B_bipush (v := 8) (by decide) dX1_init_5 ?_
  refine B_newa (t := 0) (n := 8) rfl (by decide) rfl (gm_1 56 rfl rfl) (by decide) (by decide) (Nat.le_of_ble_eq_true rfl) (Nat.le_of_ble_eq_true rfl) (Nat.le_of_ble_eq_true rfl) dX1_init_7 (fun q1 => ?_)
  refine B_putF (f := 0) ci_X1 (by decide) (gm_1 205 rfl rfl) rfl rfl rfl rfl rfl rfl (Nat.le_of_ble_eq_true rfl) dX1_init_9 ?_
  refine B_aload 0 rfl rfl dX1_init_12 ?_
  refine B_bipush (v := 8) (by decide) dX1_init_13 ?_
  refine B_newa (t := 0) (n := 8) rfl (by decide) rfl (gm_1 56 rfl rfl) (by decide) (by decide) (Nat.le_of_ble_eq_true rfl) (Nat.le_of_ble_eq_true rfl) (Nat.le_of_ble_eq_true rfl) dX1_init_15 (fun q2 => ?_)
  refine B_putF (f := 1) ci_X1 (by decide) (gm_1 207 rfl rfl) rfl rfl rfl rfl rfl rfl (Nat.le_of_ble_eq_true rfl) dX1_init_17 ?_
  refine B_aload 0 rfl rfl dX1_init_20 ?_
  refine B_bipush (v := 8) (by decide) dX1_init_21 ?_
  refine B_newa (t := 0) (n := 8) rfl (by decide) rfl (gm_1 56 rfl rfl) (by decide) (by decide) (Nat.le_of_ble_eq_true rfl) (Nat.le_of_ble_eq_true rfl) (Nat.le_of_ble_eq_true rfl) dX1_init_23 (fun q3 => ?_)
  refine B_putF (f := 2) ci_X1 (by decide) (gm_1 208 rfl rfl) rfl rfl rfl rfl rfl rfl (Nat.le_of_ble_eq_true rfl) dX1_init_25 ?_
  exact B_ret ⟨by decide, fun i => [q1, q2, q3].getD i 0, rfl⟩ (Nat.le_of_ble_eq_true rfl) (Nat.le_of_ble_eq_true rfl) dX1_init_28
def dfsX2 : List Value := [.null, .int 0, .int 0]
theorem dfsX2_ok : ∀ j, j < 3 → defaultValue (tyX2 j) = vp_V dfsX2 j := fun j hj => by
  rcases (show j = 0 ∨ j = 1 ∨ j = 2 by omega) with rfl | rfl | rfl <;> rfl
abbrev mX2_init : MI := (yX2_init, cX2_init, 1, none, { frames := 1, cells := 1, slots := 256, locals := 12 })
def WX2 (Y : Nat → ClassId) (h : Nat) (u : Nat → Nat) : va_W := [(h, .inr (2, [.ref (u 0), .int 0, .int 0])), ((u 0), zA Y 0 256)]
set_option maxHeartbeats 4000000 in
set_option maxRecDepth 100000 in
theorem ct_X2 (l : Launch) (D : va_G) (Y : Nat → ClassId) : CtB l D Y mX2_init 2 dfsX2 [0] (WX2 Y) := by
  refine B_enter (by decide) rfl rfl (by decide) (fun h0 => ?_)
  show BB l D Y mX2_init 0 [(0, .ref h0)] [] [] [(h0, .inr (2, [.null, .int 0, .int 0]))] 0 0 _
  refine B_aload 0 rfl rfl dX2_init_0 ?_
  refine B_obj (gm_1 224 rfl rfl) (gm_1 28 rfl rfl) (gm_1 29 rfl rfl) (Nat.le_of_ble_eq_true rfl) (Nat.le_of_ble_eq_true rfl) dX2_init_1 ?_
  refine B_aload 0 rfl rfl dX2_init_4 ?_
  refine B_sipush (v := 256) (by decide) dX2_init_5 ?_
  refine B_newa (t := 0) (n := 256) rfl (by decide) rfl (gm_1 56 rfl rfl) (by decide) (by decide) (Nat.le_of_ble_eq_true rfl) (Nat.le_of_ble_eq_true rfl) (Nat.le_of_ble_eq_true rfl) dX2_init_8 (fun q1 => ?_)
  refine B_putF (f := 0) ci_X2 (by decide) (gm_1 225 rfl rfl) rfl rfl rfl rfl rfl rfl (Nat.le_of_ble_eq_true rfl) dX2_init_10 ?_
  exact B_ret ⟨by decide, fun i => [q1].getD i 0, rfl⟩ (Nat.le_of_ble_eq_true rfl) (Nat.le_of_ble_eq_true rfl) dX2_init_13
def dfsX6 : List Value := [.null, .int 0]
theorem dfsX6_ok : ∀ j, j < 2 → defaultValue (tyX6 j) = vp_V dfsX6 j := fun j hj => by
  rcases (show j = 0 ∨ j = 1 by omega) with rfl | rfl <;> rfl
abbrev mX6_init : MI := (yX6_init, cX6_init, 1, none, { frames := 1, cells := 1, slots := 12, locals := 12 })
def WX6 (Y : Nat → ClassId) (h : Nat) (u : Nat → Nat) : va_W := [(h, .inr (5, [.ref (u 0), .int 0])), ((u 0), zA Y 0 12)]
set_option maxHeartbeats 4000000 in
set_option maxRecDepth 100000 in
theorem ct_X6 (l : Launch) (D : va_G) (Y : Nat → ClassId) : CtB l D Y mX6_init 5 dfsX6 [0] (WX6 Y) := by
  refine B_enter (by decide) rfl rfl (by decide) (fun h0 => ?_)
  show BB l D Y mX6_init 0 [(0, .ref h0)] [] [] [(h0, .inr (5, [.null, .int 0]))] 0 0 _
  refine B_aload 0 rfl rfl dX6_init_0 ?_
  refine B_obj (gm_2 3 rfl rfl) (gm_1 28 rfl rfl) (gm_1 29 rfl rfl) (Nat.le_of_ble_eq_true rfl) (Nat.le_of_ble_eq_true rfl) dX6_init_1 ?_
  refine B_aload 0 rfl rfl dX6_init_4 ?_
  refine B_bipush (v := 12) (by decide) dX6_init_5 ?_
  refine B_newa (t := 0) (n := 12) rfl (by decide) rfl (gm_1 56 rfl rfl) (by decide) (by decide) (Nat.le_of_ble_eq_true rfl) (Nat.le_of_ble_eq_true rfl) (Nat.le_of_ble_eq_true rfl) dX6_init_7 (fun q1 => ?_)
  refine B_putF (f := 0) ci_X6 (by decide) (gm_2 4 rfl rfl) rfl rfl rfl rfl rfl rfl (Nat.le_of_ble_eq_true rfl) dX6_init_9 ?_
  exact B_ret ⟨by decide, fun i => [q1].getD i 0, rfl⟩ (Nat.le_of_ble_eq_true rfl) (Nat.le_of_ble_eq_true rfl) dX6_init_12
def dfsX5 : List Value := [.null, .int 0, .int 0]
theorem dfsX5_ok : ∀ j, j < 3 → defaultValue (tyX5 j) = vp_V dfsX5 j := fun j hj => by
  rcases (show j = 0 ∨ j = 1 ∨ j = 2 by omega) with rfl | rfl | rfl <;> rfl
abbrev mX5_init : MI := (yX5_init, cX5_init, 1, none, { frames := 1, cells := 9, slots := 72, locals := 12 })
def WX5 (Y : Nat → ClassId) (h : Nat) (u : Nat → Nat) : va_W := [(h, .inr (4, [.ref (u 0), .int 0, .int 0])), ((u 0), .inl (Y 3, 8, .inr (.inr (.inr (.inr (fun i => if i < 8 then some (u (i + 1)) else none)))))), ((u 1), zA Y 0 8), ((u 2), zA Y 0 8), ((u 3), zA Y 0 8), ((u 4), zA Y 0 8), ((u 5), zA Y 0 8), ((u 6), zA Y 0 8), ((u 7), zA Y 0 8), ((u 8), zA Y 0 8)]
set_option maxHeartbeats 4000000 in
set_option maxRecDepth 100000 in
theorem ct_X5 (l : Launch) (D : va_G) (Y : Nat → ClassId) : CtB l D Y mX5_init 4 dfsX5 [3] (WX5 Y) := by
  refine B_enter (by decide) rfl rfl (by decide) (fun h0 => ?_)
  show BB l D Y mX5_init 0 [(0, .ref h0)] [] [] [(h0, .inr (4, [.null, .int 0, .int 0]))] 0 0 _
  refine B_aload 0 rfl rfl dX5_init_0 ?_
  refine B_obj (gm_1 35 rfl rfl) (gm_1 28 rfl rfl) (gm_1 29 rfl rfl) (Nat.le_of_ble_eq_true rfl) (Nat.le_of_ble_eq_true rfl) dX5_init_1 ?_
  refine B_aload 0 rfl rfl dX5_init_4 ?_
  refine B_bipush (v := 8) (by decide) dX5_init_5 ?_
  refine B_bipush (v := 8) (by decide) dX5_init_7 ?_
  refine B_mna (gm_1 36 rfl rfl) (gm_1 56 rfl rfl) (Nat.le_of_ble_eq_true rfl) (Nat.le_of_ble_eq_true rfl) dX5_init_9 (fun q1 r2 => ?_)
  refine B_putF (f := 0) ci_X5 (by decide) (gm_1 38 rfl rfl) rfl rfl rfl rfl rfl rfl (Nat.le_of_ble_eq_true rfl) dX5_init_13 ?_
  exact B_ret ⟨by decide, fun i => (match i with | 0 => q1 | j + 1 => r2 j), rfl⟩ (Nat.le_of_ble_eq_true rfl) (Nat.le_of_ble_eq_true rfl) dX5_init_16
def dfsX7 : List Value := [.null, .null, .int 0, .int 0, .int 0]
theorem dfsX7_ok : ∀ j, j < 5 → defaultValue (tyX7 j) = vp_V dfsX7 j := fun j hj => by
  rcases (show j = 0 ∨ j = 1 ∨ j = 2 ∨ j = 3 ∨ j = 4 by omega) with rfl | rfl | rfl | rfl | rfl <;> rfl
abbrev mX7_init : MI := (yX7_init, cX7_init, 1, none, { frames := 2, cells := 4, slots := 211, locals := 32 })
def WX7 (Y : Nat → ClassId) (h : Nat) (u : Nat → Nat) : va_W := [(h, .inr (6, [.ref (u 0), .ref (u 1), .int 0, .int 0, .int 0])), ((u 0), zA Y 2 160), ((u 1), .inr (3, [.ref (u 2), .ref (u 3), .int 0])), ((u 2), zA Y 0 24), ((u 3), zA Y 0 24)]
set_option maxHeartbeats 4000000 in
set_option maxRecDepth 100000 in
theorem ct_X7 (l : Launch) (D : va_G) (Y : Nat → ClassId) : CtB l D Y mX7_init 6 dfsX7 [0, 2] (WX7 Y) := by
  refine B_enter (by decide) rfl rfl (by decide) (fun h0 => ?_)
  show BB l D Y mX7_init 0 [(0, .ref h0)] [] [] [(h0, .inr (6, [.null, .null, .int 0, .int 0, .int 0]))] 0 0 _
  refine B_aload 0 rfl rfl dX7_init_0 ?_
  refine B_obj (gm_1 62 rfl rfl) (gm_1 28 rfl rfl) (gm_1 29 rfl rfl) (Nat.le_of_ble_eq_true rfl) (Nat.le_of_ble_eq_true rfl) dX7_init_1 ?_
  refine B_aload 0 rfl rfl dX7_init_4 ?_
  refine B_sipush (v := 160) (by decide) dX7_init_5 ?_
  refine B_newa (t := 2) (n := 160) rfl (by decide) rfl (gm_1 83 rfl rfl) (by decide) (by decide) (Nat.le_of_ble_eq_true rfl) (Nat.le_of_ble_eq_true rfl) (Nat.le_of_ble_eq_true rfl) dX7_init_8 (fun q1 => ?_)
  refine B_putF (f := 0) ci_X7 (by decide) (gm_1 84 rfl rfl) rfl rfl rfl rfl rfl rfl (Nat.le_of_ble_eq_true rfl) dX7_init_10 ?_
  refine B_aload 0 rfl rfl dX7_init_13 ?_
  refine B_new (fs := dfsX4) ci_X4 (gm_1 63 rfl rfl) (gm_1 64 rfl rfl) (gm_1 4 rfl rfl) dfsX4_ok (Nat.le_of_ble_eq_true rfl) (Nat.le_of_ble_eq_true rfl) dX7_init_14 (fun q2 => ?_)
  refine B_dup dX7_init_17 ?_
  refine B_call (ct_X4 l D Y) (gm_1 67 rfl rfl) (gm_1 4 rfl rfl) (gm_1 66 rfl rfl) ⟨by decide +kernel, by decide +kernel, by decide +kernel⟩ rfl rfl (tb_1 (List.mem_of_getElem? (i := 65) rfl)) ⟨Nat.le_of_ble_eq_true rfl, Nat.le_of_ble_eq_true rfl⟩ (Nat.le_of_ble_eq_true rfl) (Nat.le_of_ble_eq_true rfl) (Nat.le_of_ble_eq_true rfl) dX7_init_18 (fun u3 => ?_)
  refine B_putF (f := 1) ci_X7 (by decide) (gm_1 85 rfl rfl) rfl rfl rfl rfl rfl rfl (Nat.le_of_ble_eq_true rfl) dX7_init_21 ?_
  exact B_ret ⟨by decide, fun i => [q1, q2, (u3 0), (u3 1)].getD i 0, rfl⟩ (Nat.le_of_ble_eq_true rfl) (Nat.le_of_ble_eq_true rfl) dX7_init_24
def dfsX0 : List Value := [.null, .int 0, .int 0, .int 0, .int 0]
theorem dfsX0_ok : ∀ j, j < 5 → defaultValue (tyX0 j) = vp_V dfsX0 j := fun j hj => by
  rcases (show j = 0 ∨ j = 1 ∨ j = 2 ∨ j = 3 ∨ j = 4 by omega) with rfl | rfl | rfl | rfl | rfl <;> rfl
abbrev mX0_init : MI := (yX0_init, cX0_init, 1, none, { frames := 2, cells := 7, slots := 1548, locals := 32 })
def WX0 (Y : Nat → ClassId) (h : Nat) (u : Nat → Nat) : va_W := [(h, .inr (0, [.ref (u 0), .int 0, .int (-1), .int 0, .int 0])), ((u 0), .inr (8, [.ref (u 1), .ref (u 2), .ref (u 3), .ref (u 4), .ref (u 5), .ref (u 6), .int 0, .int 0, .int (-1), .int 0, .int 0, .int 0])), ((u 1), zA Y 0 256), ((u 2), zA Y 0 256), ((u 3), zA Y 0 256), ((u 4), zA Y 0 256), ((u 5), zA Y 0 256), ((u 6), zA Y 0 256)]
set_option maxHeartbeats 4000000 in
set_option maxRecDepth 100000 in
theorem ct_X0 (l : Launch) (D : va_G) (Y : Nat → ClassId) : CtB l D Y mX0_init 0 dfsX0 [0] (WX0 Y) := by
  refine B_enter (by decide) rfl rfl (by decide) (fun h0 => ?_)
  show BB l D Y mX0_init 0 [(0, .ref h0)] [] [] [(h0, .inr (0, [.null, .int 0, .int 0, .int 0, .int 0]))] 0 0 _
  refine B_aload 0 rfl rfl dX0_init_0 ?_
  refine B_obj (gm_1 158 rfl rfl) (gm_1 28 rfl rfl) (gm_1 29 rfl rfl) (Nat.le_of_ble_eq_true rfl) (Nat.le_of_ble_eq_true rfl) dX0_init_1 ?_
  refine B_aload 0 rfl rfl dX0_init_4 ?_
  refine B_new (fs := dfsX9) ci_X9 (gm_1 159 rfl rfl) (gm_1 105 rfl rfl) (gm_1 5 rfl rfl) dfsX9_ok (Nat.le_of_ble_eq_true rfl) (Nat.le_of_ble_eq_true rfl) dX0_init_5 (fun q1 => ?_)
  refine B_dup dX0_init_8 ?_
  refine B_call (ct_X9 l D Y) (gm_1 108 rfl rfl) (gm_1 5 rfl rfl) (gm_1 107 rfl rfl) ⟨by decide +kernel, by decide +kernel, by decide +kernel⟩ rfl rfl (tb_1 (List.mem_of_getElem? (i := 160) rfl)) ⟨Nat.le_of_ble_eq_true rfl, Nat.le_of_ble_eq_true rfl⟩ (Nat.le_of_ble_eq_true rfl) (Nat.le_of_ble_eq_true rfl) (Nat.le_of_ble_eq_true rfl) dX0_init_9 (fun u2 => ?_)
  refine B_putF (f := 0) ci_X0 (by decide) (gm_1 161 rfl rfl) rfl rfl rfl rfl rfl rfl (Nat.le_of_ble_eq_true rfl) dX0_init_12 ?_
  refine B_aload 0 rfl rfl dX0_init_15 ?_
  refine B_iconst (v := (-1)) (by decide) dX0_init_16 ?_
  refine B_put (f := 2) ci_X0 (by decide) (gm_1 164 rfl rfl) rfl rfl rfl rfl (Nat.le_of_ble_eq_true rfl) dX0_init_17 ?_
  exact B_ret ⟨by decide, fun i => [q1, (u2 0), (u2 1), (u2 2), (u2 3), (u2 4), (u2 5)].getD i 0, rfl⟩ (Nat.le_of_ble_eq_true rfl) (Nat.le_of_ble_eq_true rfl) dX0_init_20
