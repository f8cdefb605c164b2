/-! printed by program: the constructors of both -/
theorem prA_0 (Y : Nat → ClassId) : prA Y 0 = zA Y 0 15 := by
  unfold prA
  have : onesF 0 = fun _ => 0 := by funext j; exact if_neg (Nat.not_lt_zero j)
  rw [this]
theorem B_fill0 {l : Launch} {D : va_G} {Y : Nat → ClassId} {M : MI} {pc : Nat} {L : List (Nat × Value)} {st : List Value} {ks : List Nat} {ws : va_W} {ck cs : Nat} {F : List Nat → va_W → Prop} {a idx : Nat} (h0 : 0 ∈ ks) (hl0 : Cond.methodLink M.1.cls idx yJ7_fill_53178 ∈ gdT) (hR : mJ7_fill_53178.2.2.2.2.frames + 1 ≤ M.2.2.2.2.frames ∧ 8 + (4 + 11) + mJ7_fill_53178.2.2.2.2.locals ≤ M.2.2.2.2.locals) (hsum : (st.map fun v => v.category).sum ≤ 8) (hck : ck ≤ M.2.2.2.2.cells) (hcs : cs ≤ M.2.2.2.2.slots) (hi : Cond.static yJ7_fill_53178 ∈ gdT) (hd : decode M.2.1 pc = .ok (.invokestatic idx, 3)) (k : BB l D Y M (pc + 3) L st ks (ws ++ [(a, prA Y 15)]) ck cs F) : BB l D Y M pc L (.int 1 :: .ref a :: st) ks (ws ++ [(a, zA Y 0 15)]) ck cs F := by
  rw [← prA_0]
  exact B_fill h0 hl0 hR hsum hck hcs hi hd k
theorem lk8 {f g : Nat → Nat} (h : ∀ i, i < 8 → f i = g i) : (fun i => if i < 8 then some (f i) else none) = (fun i => if i < 8 then some (g i) else none) := by
  funext i
  by_cases c : i < 8
  · rw [if_pos c, if_pos c, h i c]
  · rw [if_neg c, if_neg c]
def dfsX12 : List Value := [.int 0, .null, .null, .null, .null, .null, .null, .null, .int 0, .null, .int 0, .int 0, .long 0, .int 0, .int 0, .int 0, .int 0, .null, .null, .null, .int 0, .null, .null, .null, .null, .null, .null, .null, .null, .null, .null, .null, .null, .null, .null, .null, .null, .null, .int 0, .int 0, .null]
theorem dfsX12_ok : ∀ j, j < 41 → defaultValue (tyX12 j) = vp_V dfsX12 j := fun j hj => by
  rcases (show j = 0 ∨ j = 1 ∨ j = 2 ∨ j = 3 ∨ j = 4 ∨ j = 5 ∨ j = 6 ∨ j = 7 ∨ j = 8 ∨ j = 9 ∨ j = 10 ∨ j = 11 ∨ j = 12 ∨ j = 13 ∨ j = 14 ∨ j = 15 ∨ j = 16 ∨ j = 17 ∨ j = 18 ∨ j = 19 ∨ j = 20 ∨ j = 21 ∨ j = 22 ∨ j = 23 ∨ j = 24 ∨ j = 25 ∨ j = 26 ∨ j = 27 ∨ j = 28 ∨ j = 29 ∨ j = 30 ∨ j = 31 ∨ j = 32 ∨ j = 33 ∨ j = 34 ∨ j = 35 ∨ j = 36 ∨ j = 37 ∨ j = 38 ∨ j = 39 ∨ j = 40 by omega) with rfl | rfl | rfl | rfl | rfl | rfl | rfl | rfl | rfl | rfl | rfl | rfl | rfl | rfl | rfl | rfl | rfl | rfl | rfl | rfl | rfl | rfl | rfl | rfl | rfl | rfl | rfl | rfl | rfl | rfl | rfl | rfl | rfl | rfl | rfl | rfl | rfl | rfl | rfl | rfl | rfl <;> rfl
abbrev mX12_init : MI := (yX12_init, cX12_init, 2, none, { frames := 1, cells := 29, slots := 2797, locals := 12 })
def WX12 (Y : Nat → ClassId) (h : Nat) (u : Nat → Nat) : va_W := [(h, .inr (10, [.int 0, .ref (u 1), .ref (u 2), .ref (u 3), .ref (u 4), .ref (u 5), .ref (u 6), .ref (u 7), .int 0, .ref (u 8), .int 0, .int 0, .long 0, .int 0, .int 0, .int 0, .int 0, .ref (u 9), .ref (u 10), .ref (u 11), .int 0, .ref (u 12), .ref (u 13), .ref (u 14), .ref (u 15), .ref (u 16), .ref (u 17), .ref (u 18), .ref (u 19), .ref (u 20), .ref (u 21), .ref (u 22), .ref (u 23), .ref (u 24), .ref (u 25), .ref (u 26), .ref (u 27), .ref (u 28), .int 0, .int 0, .ref (u 29)])), ((u 1), zA Y 0 8), ((u 2), zA Y 0 8), ((u 3), zA Y 0 8), ((u 4), zA Y 0 8), ((u 5), zA Y 0 8), ((u 6), zA Y 0 8), ((u 7), prA Y 15), ((u 8), zA Y 0 160), ((u 9), zA Y 0 24), ((u 10), zA Y 0 24), ((u 11), zA Y 0 26), ((u 12), zA Y 0 8), ((u 13), zA Y 0 192), ((u 14), zA Y 0 192), ((u 15), zA Y 0 256), ((u 16), zA Y 0 256), ((u 17), zA Y 0 256), ((u 18), zA Y 0 256), ((u 19), zA Y 0 256), ((u 20), zA Y 0 256), ((u 21), zA Y 1 256), ((u 22), zA Y 0 8), ((u 23), zA Y 0 8), ((u 24), zA Y 0 8), ((u 25), zA Y 0 8), ((u 26), zA Y 0 8), ((u 27), zA Y 0 8), ((u 28), zA Y 0 256), ((u 29), zA Y 0 12)]
set_option maxHeartbeats 4000000 in
set_option maxRecDepth 100000 in
theorem ct_X12 (l : Launch) (D : va_G) (Y : Nat → ClassId) : CtB l D Y mX12_init 10 dfsX12 [0, 1] (WX12 Y) := by
  refine B_enter (by decide) rfl rfl (by decide) (fun h0 => ?_)
  show BB l D Y mX12_init 0 [(0, .ref h0)] [] [] [(h0, .inr (10, [.int 0, .null, .null, .null, .null, .null, .null, .null, .int 0, .null, .int 0, .int 0, .long 0, .int 0, .int 0, .int 0, .int 0, .null, .null, .null, .int 0, .null, .null, .null, .null, .null, .null, .null, .null, .null, .null, .null, .null, .null, .null, .null, .null, .null, .int 0, .int 0, .null]))] 0 0 _
  refine B_aload 0 rfl rfl dX12_init_0 ?_
  refine B_obj (gm_4 81 rfl rfl) (gm_1 28 rfl rfl) (gm_1 29 rfl rfl) (Nat.le_of_ble_eq_true rfl) (Nat.le_of_ble_eq_true rfl) dX12_init_1 ?_
  refine B_aload 0 rfl rfl dX12_init_4 ?_
  refine B_bipush (v := 8) (by decide) dX12_init_5 ?_
  refine B_newa (t := 0) (n := 8) rfl (by decide) rfl (gm_1 56 rfl rfl) (by decide) (by decide) (Nat.le_of_ble_eq_true rfl) (Nat.le_of_ble_eq_true rfl) (Nat.le_of_ble_eq_true rfl) dX12_init_7 (fun q1 => ?_)
  refine B_putF (f := 1) ci_X12 (by decide) (gm_4 83 rfl rfl) rfl rfl rfl rfl rfl rfl (Nat.le_of_ble_eq_true rfl) dX12_init_9 ?_
  show BB l D Y mX12_init 12 _ _ [0] [(h0, .inr (10, [.int 0, .ref q1, .null, .null, .null, .null, .null, .null, .int 0, .null, .int 0, .int 0, .long 0, .int 0, .int 0, .int 0, .int 0, .null, .null, .null, .int 0, .null, .null, .null, .null, .null, .null, .null, .null, .null, .null, .null, .null, .null, .null, .null, .null, .null, .int 0, .int 0, .null])), (q1, zA Y 0 8)] 1 8 _
  refine B_aload 0 rfl rfl dX12_init_12 ?_
  refine B_bipush (v := 8) (by decide) dX12_init_13 ?_
  refine B_newa (t := 0) (n := 8) rfl (by decide) rfl (gm_1 56 rfl rfl) (by decide) (by decide) (Nat.le_of_ble_eq_true rfl) (Nat.le_of_ble_eq_true rfl) (Nat.le_of_ble_eq_true rfl) dX12_init_15 (fun q2 => ?_)
  refine B_putF (f := 2) ci_X12 (by decide) (gm_4 84 rfl rfl) rfl rfl rfl rfl rfl rfl (Nat.le_of_ble_eq_true rfl) dX12_init_17 ?_
  show BB l D Y mX12_init 20 _ _ [0, 0] [(h0, .inr (10, [.int 0, .ref q1, .ref q2, .null, .null, .null, .null, .null, .int 0, .null, .int 0, .int 0, .long 0, .int 0, .int 0, .int 0, .int 0, .null, .null, .null, .int 0, .null, .null, .null, .null, .null, .null, .null, .null, .null, .null, .null, .null, .null, .null, .null, .null, .null, .int 0, .int 0, .null])), (q1, zA Y 0 8), (q2, zA Y 0 8)] 2 16 _
  refine B_aload 0 rfl rfl dX12_init_20 ?_
  refine B_bipush (v := 8) (by decide) dX12_init_21 ?_
  refine B_newa (t := 0) (n := 8) rfl (by decide) rfl (gm_1 56 rfl rfl) (by decide) (by decide) (Nat.le_of_ble_eq_true rfl) (Nat.le_of_ble_eq_true rfl) (Nat.le_of_ble_eq_true rfl) dX12_init_23 (fun q3 => ?_)
  refine B_putF (f := 3) ci_X12 (by decide) (gm_4 85 rfl rfl) rfl rfl rfl rfl rfl rfl (Nat.le_of_ble_eq_true rfl) dX12_init_25 ?_
  show BB l D Y mX12_init 28 _ _ [0, 0, 0] [(h0, .inr (10, [.int 0, .ref q1, .ref q2, .ref q3, .null, .null, .null, .null, .int 0, .null, .int 0, .int 0, .long 0, .int 0, .int 0, .int 0, .int 0, .null, .null, .null, .int 0, .null, .null, .null, .null, .null, .null, .null, .null, .null, .null, .null, .null, .null, .null, .null, .null, .null, .int 0, .int 0, .null])), (q1, zA Y 0 8), (q2, zA Y 0 8), (q3, zA Y 0 8)] 3 24 _
  refine B_aload 0 rfl rfl dX12_init_28 ?_
  refine B_bipush (v := 8) (by decide) dX12_init_29 ?_
  refine B_newa (t := 0) (n := 8) rfl (by decide) rfl (gm_1 56 rfl rfl) (by decide) (by decide) (Nat.le_of_ble_eq_true rfl) (Nat.le_of_ble_eq_true rfl) (Nat.le_of_ble_eq_true rfl) dX12_init_31 (fun q4 => ?_)
  refine B_putF (f := 4) ci_X12 (by decide) (gm_4 86 rfl rfl) rfl rfl rfl rfl rfl rfl (Nat.le_of_ble_eq_true rfl) dX12_init_33 ?_
  show BB l D Y mX12_init 36 _ _ [0, 0, 0, 0] [(h0, .inr (10, [.int 0, .ref q1, .ref q2, .ref q3, .ref q4, .null, .null, .null, .int 0, .null, .int 0, .int 0, .long 0, .int 0, .int 0, .int 0, .int 0, .null, .null, .null, .int 0, .null, .null, .null, .null, .null, .null, .null, .null, .null, .null, .null, .null, .null, .null, .null, .null, .null, .int 0, .int 0, .null])), (q1, zA Y 0 8), (q2, zA Y 0 8), (q3, zA Y 0 8), (q4, zA Y 0 8)] 4 32 _
  refine B_aload 0 rfl rfl dX12_init_36 ?_
  refine B_bipush (v := 8) (by decide) dX12_init_37 ?_
  refine B_newa (t := 0) (n := 8) rfl (by decide) rfl (gm_1 56 rfl rfl) (by decide) (by decide) (Nat.le_of_ble_eq_true rfl) (Nat.le_of_ble_eq_true rfl) (Nat.le_of_ble_eq_true rfl) dX12_init_39 (fun q5 => ?_)
  refine B_putF (f := 5) ci_X12 (by decide) (gm_4 87 rfl rfl) rfl rfl rfl rfl rfl rfl (Nat.le_of_ble_eq_true rfl) dX12_init_41 ?_
  show BB l D Y mX12_init 44 _ _ [0, 0, 0, 0, 0] [(h0, .inr (10, [.int 0, .ref q1, .ref q2, .ref q3, .ref q4, .ref q5, .null, .null, .int 0, .null, .int 0, .int 0, .long 0, .int 0, .int 0, .int 0, .int 0, .null, .null, .null, .int 0, .null, .null, .null, .null, .null, .null, .null, .null, .null, .null, .null, .null, .null, .null, .null, .null, .null, .int 0, .int 0, .null])), (q1, zA Y 0 8), (q2, zA Y 0 8), (q3, zA Y 0 8), (q4, zA Y 0 8), (q5, zA Y 0 8)] 5 40 _
  refine B_aload 0 rfl rfl dX12_init_44 ?_
  refine B_bipush (v := 8) (by decide) dX12_init_45 ?_
  refine B_newa (t := 0) (n := 8) rfl (by decide) rfl (gm_1 56 rfl rfl) (by decide) (by decide) (Nat.le_of_ble_eq_true rfl) (Nat.le_of_ble_eq_true rfl) (Nat.le_of_ble_eq_true rfl) dX12_init_47 (fun q6 => ?_)
  refine B_putF (f := 6) ci_X12 (by decide) (gm_4 88 rfl rfl) rfl rfl rfl rfl rfl rfl (Nat.le_of_ble_eq_true rfl) dX12_init_49 ?_
  show BB l D Y mX12_init 52 _ _ [0, 0, 0, 0, 0, 0] [(h0, .inr (10, [.int 0, .ref q1, .ref q2, .ref q3, .ref q4, .ref q5, .ref q6, .null, .int 0, .null, .int 0, .int 0, .long 0, .int 0, .int 0, .int 0, .int 0, .null, .null, .null, .int 0, .null, .null, .null, .null, .null, .null, .null, .null, .null, .null, .null, .null, .null, .null, .null, .null, .null, .int 0, .int 0, .null])), (q1, zA Y 0 8), (q2, zA Y 0 8), (q3, zA Y 0 8), (q4, zA Y 0 8), (q5, zA Y 0 8), (q6, zA Y 0 8)] 6 48 _
  refine B_aload 0 rfl rfl dX12_init_52 ?_
  refine B_bipush (v := 15) (by decide) dX12_init_53 ?_
  refine B_newa (t := 0) (n := 15) rfl (by decide) rfl (gm_1 56 rfl rfl) (by decide) (by decide) (Nat.le_of_ble_eq_true rfl) (Nat.le_of_ble_eq_true rfl) (Nat.le_of_ble_eq_true rfl) dX12_init_55 (fun q7 => ?_)
  refine B_putF (f := 7) ci_X12 (by decide) (gm_4 89 rfl rfl) rfl rfl rfl rfl rfl rfl (Nat.le_of_ble_eq_true rfl) dX12_init_57 ?_
  show BB l D Y mX12_init 60 _ _ [0, 0, 0, 0, 0, 0, 0] [(h0, .inr (10, [.int 0, .ref q1, .ref q2, .ref q3, .ref q4, .ref q5, .ref q6, .ref q7, .int 0, .null, .int 0, .int 0, .long 0, .int 0, .int 0, .int 0, .int 0, .null, .null, .null, .int 0, .null, .null, .null, .null, .null, .null, .null, .null, .null, .null, .null, .null, .null, .null, .null, .null, .null, .int 0, .int 0, .null])), (q1, zA Y 0 8), (q2, zA Y 0 8), (q3, zA Y 0 8), (q4, zA Y 0 8), (q5, zA Y 0 8), (q6, zA Y 0 8), (q7, zA Y 0 15)] 7 63 _
  refine B_aload 0 rfl rfl dX12_init_60 ?_
  refine B_sipush (v := 160) (by decide) dX12_init_61 ?_
  refine B_newa (t := 0) (n := 160) rfl (by decide) rfl (gm_1 56 rfl rfl) (by decide) (by decide) (Nat.le_of_ble_eq_true rfl) (Nat.le_of_ble_eq_true rfl) (Nat.le_of_ble_eq_true rfl) dX12_init_64 (fun q8 => ?_)
  refine B_putF (f := 9) ci_X12 (by decide) (gm_4 91 rfl rfl) rfl rfl rfl rfl rfl rfl (Nat.le_of_ble_eq_true rfl) dX12_init_66 ?_
  show BB l D Y mX12_init 69 _ _ [0, 0, 0, 0, 0, 0, 0, 0] [(h0, .inr (10, [.int 0, .ref q1, .ref q2, .ref q3, .ref q4, .ref q5, .ref q6, .ref q7, .int 0, .ref q8, .int 0, .int 0, .long 0, .int 0, .int 0, .int 0, .int 0, .null, .null, .null, .int 0, .null, .null, .null, .null, .null, .null, .null, .null, .null, .null, .null, .null, .null, .null, .null, .null, .null, .int 0, .int 0, .null])), (q1, zA Y 0 8), (q2, zA Y 0 8), (q3, zA Y 0 8), (q4, zA Y 0 8), (q5, zA Y 0 8), (q6, zA Y 0 8), (q7, zA Y 0 15), (q8, zA Y 0 160)] 8 223 _
  refine B_aload 0 rfl rfl dX12_init_69 ?_
  refine B_bipush (v := 24) (by decide) dX12_init_70 ?_
  refine B_newa (t := 0) (n := 24) rfl (by decide) rfl (gm_1 56 rfl rfl) (by decide) (by decide) (Nat.le_of_ble_eq_true rfl) (Nat.le_of_ble_eq_true rfl) (Nat.le_of_ble_eq_true rfl) dX12_init_72 (fun q9 => ?_)
  refine B_putF (f := 17) ci_X12 (by decide) (gm_4 99 rfl rfl) rfl rfl rfl rfl rfl rfl (Nat.le_of_ble_eq_true rfl) dX12_init_74 ?_
  show BB l D Y mX12_init 77 _ _ [0, 0, 0, 0, 0, 0, 0, 0, 0] [(h0, .inr (10, [.int 0, .ref q1, .ref q2, .ref q3, .ref q4, .ref q5, .ref q6, .ref q7, .int 0, .ref q8, .int 0, .int 0, .long 0, .int 0, .int 0, .int 0, .int 0, .ref q9, .null, .null, .int 0, .null, .null, .null, .null, .null, .null, .null, .null, .null, .null, .null, .null, .null, .null, .null, .null, .null, .int 0, .int 0, .null])), (q1, zA Y 0 8), (q2, zA Y 0 8), (q3, zA Y 0 8), (q4, zA Y 0 8), (q5, zA Y 0 8), (q6, zA Y 0 8), (q7, zA Y 0 15), (q8, zA Y 0 160), (q9, zA Y 0 24)] 9 247 _
  refine B_aload 0 rfl rfl dX12_init_77 ?_
  refine B_bipush (v := 24) (by decide) dX12_init_78 ?_
  refine B_newa (t := 0) (n := 24) rfl (by decide) rfl (gm_1 56 rfl rfl) (by decide) (by decide) (Nat.le_of_ble_eq_true rfl) (Nat.le_of_ble_eq_true rfl) (Nat.le_of_ble_eq_true rfl) dX12_init_80 (fun q10 => ?_)
  refine B_putF (f := 18) ci_X12 (by decide) (gm_4 100 rfl rfl) rfl rfl rfl rfl rfl rfl (Nat.le_of_ble_eq_true rfl) dX12_init_82 ?_
  show BB l D Y mX12_init 85 _ _ [0, 0, 0, 0, 0, 0, 0, 0, 0, 0] [(h0, .inr (10, [.int 0, .ref q1, .ref q2, .ref q3, .ref q4, .ref q5, .ref q6, .ref q7, .int 0, .ref q8, .int 0, .int 0, .long 0, .int 0, .int 0, .int 0, .int 0, .ref q9, .ref q10, .null, .int 0, .null, .null, .null, .null, .null, .null, .null, .null, .null, .null, .null, .null, .null, .null, .null, .null, .null, .int 0, .int 0, .null])), (q1, zA Y 0 8), (q2, zA Y 0 8), (q3, zA Y 0 8), (q4, zA Y 0 8), (q5, zA Y 0 8), (q6, zA Y 0 8), (q7, zA Y 0 15), (q8, zA Y 0 160), (q9, zA Y 0 24), (q10, zA Y 0 24)] 10 271 _
  refine B_aload 0 rfl rfl dX12_init_85 ?_
  refine B_bipush (v := 26) (by decide) dX12_init_86 ?_
  refine B_newa (t := 0) (n := 26) rfl (by decide) rfl (gm_1 56 rfl rfl) (by decide) (by decide) (Nat.le_of_ble_eq_true rfl) (Nat.le_of_ble_eq_true rfl) (Nat.le_of_ble_eq_true rfl) dX12_init_88 (fun q11 => ?_)
  refine B_putF (f := 19) ci_X12 (by decide) (gm_4 101 rfl rfl) rfl rfl rfl rfl rfl rfl (Nat.le_of_ble_eq_true rfl) dX12_init_90 ?_
  show BB l D Y mX12_init 93 _ _ [0, 0, 0, 0, 0, 0, 0, 0, 0, 0, 0] [(h0, .inr (10, [.int 0, .ref q1, .ref q2, .ref q3, .ref q4, .ref q5, .ref q6, .ref q7, .int 0, .ref q8, .int 0, .int 0, .long 0, .int 0, .int 0, .int 0, .int 0, .ref q9, .ref q10, .ref q11, .int 0, .null, .null, .null, .null, .null, .null, .null, .null, .null, .null, .null, .null, .null, .null, .null, .null, .null, .int 0, .int 0, .null])), (q1, zA Y 0 8), (q2, zA Y 0 8), (q3, zA Y 0 8), (q4, zA Y 0 8), (q5, zA Y 0 8), (q6, zA Y 0 8), (q7, zA Y 0 15), (q8, zA Y 0 160), (q9, zA Y 0 24), (q10, zA Y 0 24), (q11, zA Y 0 26)] 11 297 _
  refine B_aload 0 rfl rfl dX12_init_93 ?_
  refine B_bipush (v := 8) (by decide) dX12_init_94 ?_
  refine B_newa (t := 0) (n := 8) rfl (by decide) rfl (gm_1 56 rfl rfl) (by decide) (by decide) (Nat.le_of_ble_eq_true rfl) (Nat.le_of_ble_eq_true rfl) (Nat.le_of_ble_eq_true rfl) dX12_init_96 (fun q12 => ?_)
  refine B_putF (f := 21) ci_X12 (by decide) (gm_4 103 rfl rfl) rfl rfl rfl rfl rfl rfl (Nat.le_of_ble_eq_true rfl) dX12_init_98 ?_
  show BB l D Y mX12_init 101 _ _ [0, 0, 0, 0, 0, 0, 0, 0, 0, 0, 0, 0] [(h0, .inr (10, [.int 0, .ref q1, .ref q2, .ref q3, .ref q4, .ref q5, .ref q6, .ref q7, .int 0, .ref q8, .int 0, .int 0, .long 0, .int 0, .int 0, .int 0, .int 0, .ref q9, .ref q10, .ref q11, .int 0, .ref q12, .null, .null, .null, .null, .null, .null, .null, .null, .null, .null, .null, .null, .null, .null, .null, .null, .int 0, .int 0, .null])), (q1, zA Y 0 8), (q2, zA Y 0 8), (q3, zA Y 0 8), (q4, zA Y 0 8), (q5, zA Y 0 8), (q6, zA Y 0 8), (q7, zA Y 0 15), (q8, zA Y 0 160), (q9, zA Y 0 24), (q10, zA Y 0 24), (q11, zA Y 0 26), (q12, zA Y 0 8)] 12 305 _
  refine B_aload 0 rfl rfl dX12_init_101 ?_
  refine B_sipush (v := 192) (by decide) dX12_init_102 ?_
  refine B_newa (t := 0) (n := 192) rfl (by decide) rfl (gm_1 56 rfl rfl) (by decide) (by decide) (Nat.le_of_ble_eq_true rfl) (Nat.le_of_ble_eq_true rfl) (Nat.le_of_ble_eq_true rfl) dX12_init_105 (fun q13 => ?_)
  refine B_putF (f := 22) ci_X12 (by decide) (gm_4 104 rfl rfl) rfl rfl rfl rfl rfl rfl (Nat.le_of_ble_eq_true rfl) dX12_init_107 ?_
  show BB l D Y mX12_init 110 _ _ [0, 0, 0, 0, 0, 0, 0, 0, 0, 0, 0, 0, 0] [(h0, .inr (10, [.int 0, .ref q1, .ref q2, .ref q3, .ref q4, .ref q5, .ref q6, .ref q7, .int 0, .ref q8, .int 0, .int 0, .long 0, .int 0, .int 0, .int 0, .int 0, .ref q9, .ref q10, .ref q11, .int 0, .ref q12, .ref q13, .null, .null, .null, .null, .null, .null, .null, .null, .null, .null, .null, .null, .null, .null, .null, .int 0, .int 0, .null])), (q1, zA Y 0 8), (q2, zA Y 0 8), (q3, zA Y 0 8), (q4, zA Y 0 8), (q5, zA Y 0 8), (q6, zA Y 0 8), (q7, zA Y 0 15), (q8, zA Y 0 160), (q9, zA Y 0 24), (q10, zA Y 0 24), (q11, zA Y 0 26), (q12, zA Y 0 8), (q13, zA Y 0 192)] 13 497 _
  refine B_aload 0 rfl rfl dX12_init_110 ?_
  refine B_sipush (v := 192) (by decide) dX12_init_111 ?_
  refine B_newa (t := 0) (n := 192) rfl (by decide) rfl (gm_1 56 rfl rfl) (by decide) (by decide) (Nat.le_of_ble_eq_true rfl) (Nat.le_of_ble_eq_true rfl) (Nat.le_of_ble_eq_true rfl) dX12_init_114 (fun q14 => ?_)
  refine B_putF (f := 23) ci_X12 (by decide) (gm_4 105 rfl rfl) rfl rfl rfl rfl rfl rfl (Nat.le_of_ble_eq_true rfl) dX12_init_116 ?_
  show BB l D Y mX12_init 119 _ _ [0, 0, 0, 0, 0, 0, 0, 0, 0, 0, 0, 0, 0, 0] [(h0, .inr (10, [.int 0, .ref q1, .ref q2, .ref q3, .ref q4, .ref q5, .ref q6, .ref q7, .int 0, .ref q8, .int 0, .int 0, .long 0, .int 0, .int 0, .int 0, .int 0, .ref q9, .ref q10, .ref q11, .int 0, .ref q12, .ref q13, .ref q14, .null, .null, .null, .null, .null, .null, .null, .null, .null, .null, .null, .null, .null, .null, .int 0, .int 0, .null])), (q1, zA Y 0 8), (q2, zA Y 0 8), (q3, zA Y 0 8), (q4, zA Y 0 8), (q5, zA Y 0 8), (q6, zA Y 0 8), (q7, zA Y 0 15), (q8, zA Y 0 160), (q9, zA Y 0 24), (q10, zA Y 0 24), (q11, zA Y 0 26), (q12, zA Y 0 8), (q13, zA Y 0 192), (q14, zA Y 0 192)] 14 689 _
  refine B_aload 0 rfl rfl dX12_init_119 ?_
  refine B_sipush (v := 256) (by decide) dX12_init_120 ?_
  refine B_newa (t := 0) (n := 256) rfl (by decide) rfl (gm_1 56 rfl rfl) (by decide) (by decide) (Nat.le_of_ble_eq_true rfl) (Nat.le_of_ble_eq_true rfl) (Nat.le_of_ble_eq_true rfl) dX12_init_123 (fun q15 => ?_)
  refine B_putF (f := 24) ci_X12 (by decide) (gm_4 106 rfl rfl) rfl rfl rfl rfl rfl rfl (Nat.le_of_ble_eq_true rfl) dX12_init_125 ?_
  show BB l D Y mX12_init 128 _ _ [0, 0, 0, 0, 0, 0, 0, 0, 0, 0, 0, 0, 0, 0, 0] [(h0, .inr (10, [.int 0, .ref q1, .ref q2, .ref q3, .ref q4, .ref q5, .ref q6, .ref q7, .int 0, .ref q8, .int 0, .int 0, .long 0, .int 0, .int 0, .int 0, .int 0, .ref q9, .ref q10, .ref q11, .int 0, .ref q12, .ref q13, .ref q14, .ref q15, .null, .null, .null, .null, .null, .null, .null, .null, .null, .null, .null, .null, .null, .int 0, .int 0, .null])), (q1, zA Y 0 8), (q2, zA Y 0 8), (q3, zA Y 0 8), (q4, zA Y 0 8), (q5, zA Y 0 8), (q6, zA Y 0 8), (q7, zA Y 0 15), (q8, zA Y 0 160), (q9, zA Y 0 24), (q10, zA Y 0 24), (q11, zA Y 0 26), (q12, zA Y 0 8), (q13, zA Y 0 192), (q14, zA Y 0 192), (q15, zA Y 0 256)] 15 945 _
  refine B_aload 0 rfl rfl dX12_init_128 ?_
  refine B_sipush (v := 256) (by decide) dX12_init_129 ?_
  refine B_newa (t := 0) (n := 256) rfl (by decide) rfl (gm_1 56 rfl rfl) (by decide) (by decide) (Nat.le_of_ble_eq_true rfl) (Nat.le_of_ble_eq_true rfl) (Nat.le_of_ble_eq_true rfl) dX12_init_132 (fun q16 => ?_)
  refine B_putF (f := 25) ci_X12 (by decide) (gm_4 107 rfl rfl) rfl rfl rfl rfl rfl rfl (Nat.le_of_ble_eq_true rfl) dX12_init_134 ?_
  show BB l D Y mX12_init 137 _ _ [0, 0, 0, 0, 0, 0, 0, 0, 0, 0, 0, 0, 0, 0, 0, 0] [(h0, .inr (10, [.int 0, .ref q1, .ref q2, .ref q3, .ref q4, .ref q5, .ref q6, .ref q7, .int 0, .ref q8, .int 0, .int 0, .long 0, .int 0, .int 0, .int 0, .int 0, .ref q9, .ref q10, .ref q11, .int 0, .ref q12, .ref q13, .ref q14, .ref q15, .ref q16, .null, .null, .null, .null, .null, .null, .null, .null, .null, .null, .null, .null, .int 0, .int 0, .null])), (q1, zA Y 0 8), (q2, zA Y 0 8), (q3, zA Y 0 8), (q4, zA Y 0 8), (q5, zA Y 0 8), (q6, zA Y 0 8), (q7, zA Y 0 15), (q8, zA Y 0 160), (q9, zA Y 0 24), (q10, zA Y 0 24), (q11, zA Y 0 26), (q12, zA Y 0 8), (q13, zA Y 0 192), (q14, zA Y 0 192), (q15, zA Y 0 256), (q16, zA Y 0 256)] 16 1201 _
  refine B_aload 0 rfl rfl dX12_init_137 ?_
  refine B_sipush (v := 256) (by decide) dX12_init_138 ?_
  refine B_newa (t := 0) (n := 256) rfl (by decide) rfl (gm_1 56 rfl rfl) (by decide) (by decide) (Nat.le_of_ble_eq_true rfl) (Nat.le_of_ble_eq_true rfl) (Nat.le_of_ble_eq_true rfl) dX12_init_141 (fun q17 => ?_)
  refine B_putF (f := 26) ci_X12 (by decide) (gm_4 108 rfl rfl) rfl rfl rfl rfl rfl rfl (Nat.le_of_ble_eq_true rfl) dX12_init_143 ?_
  show BB l D Y mX12_init 146 _ _ [0, 0, 0, 0, 0, 0, 0, 0, 0, 0, 0, 0, 0, 0, 0, 0, 0] [(h0, .inr (10, [.int 0, .ref q1, .ref q2, .ref q3, .ref q4, .ref q5, .ref q6, .ref q7, .int 0, .ref q8, .int 0, .int 0, .long 0, .int 0, .int 0, .int 0, .int 0, .ref q9, .ref q10, .ref q11, .int 0, .ref q12, .ref q13, .ref q14, .ref q15, .ref q16, .ref q17, .null, .null, .null, .null, .null, .null, .null, .null, .null, .null, .null, .int 0, .int 0, .null])), (q1, zA Y 0 8), (q2, zA Y 0 8), (q3, zA Y 0 8), (q4, zA Y 0 8), (q5, zA Y 0 8), (q6, zA Y 0 8), (q7, zA Y 0 15), (q8, zA Y 0 160), (q9, zA Y 0 24), (q10, zA Y 0 24), (q11, zA Y 0 26), (q12, zA Y 0 8), (q13, zA Y 0 192), (q14, zA Y 0 192), (q15, zA Y 0 256), (q16, zA Y 0 256), (q17, zA Y 0 256)] 17 1457 _
  refine B_aload 0 rfl rfl dX12_init_146 ?_
  refine B_sipush (v := 256) (by decide) dX12_init_147 ?_
  refine B_newa (t := 0) (n := 256) rfl (by decide) rfl (gm_1 56 rfl rfl) (by decide) (by decide) (Nat.le_of_ble_eq_true rfl) (Nat.le_of_ble_eq_true rfl) (Nat.le_of_ble_eq_true rfl) dX12_init_150 (fun q18 => ?_)
  refine B_putF (f := 27) ci_X12 (by decide) (gm_4 109 rfl rfl) rfl rfl rfl rfl rfl rfl (Nat.le_of_ble_eq_true rfl) dX12_init_152 ?_
  show BB l D Y mX12_init 155 _ _ [0, 0, 0, 0, 0, 0, 0, 0, 0, 0, 0, 0, 0, 0, 0, 0, 0, 0] [(h0, .inr (10, [.int 0, .ref q1, .ref q2, .ref q3, .ref q4, .ref q5, .ref q6, .ref q7, .int 0, .ref q8, .int 0, .int 0, .long 0, .int 0, .int 0, .int 0, .int 0, .ref q9, .ref q10, .ref q11, .int 0, .ref q12, .ref q13, .ref q14, .ref q15, .ref q16, .ref q17, .ref q18, .null, .null, .null, .null, .null, .null, .null, .null, .null, .null, .int 0, .int 0, .null])), (q1, zA Y 0 8), (q2, zA Y 0 8), (q3, zA Y 0 8), (q4, zA Y 0 8), (q5, zA Y 0 8), (q6, zA Y 0 8), (q7, zA Y 0 15), (q8, zA Y 0 160), (q9, zA Y 0 24), (q10, zA Y 0 24), (q11, zA Y 0 26), (q12, zA Y 0 8), (q13, zA Y 0 192), (q14, zA Y 0 192), (q15, zA Y 0 256), (q16, zA Y 0 256), (q17, zA Y 0 256), (q18, zA Y 0 256)] 18 1713 _
  refine B_aload 0 rfl rfl dX12_init_155 ?_
  refine B_sipush (v := 256) (by decide) dX12_init_156 ?_
  refine B_newa (t := 0) (n := 256) rfl (by decide) rfl (gm_1 56 rfl rfl) (by decide) (by decide) (Nat.le_of_ble_eq_true rfl) (Nat.le_of_ble_eq_true rfl) (Nat.le_of_ble_eq_true rfl) dX12_init_159 (fun q19 => ?_)
  refine B_putF (f := 28) ci_X12 (by decide) (gm_4 110 rfl rfl) rfl rfl rfl rfl rfl rfl (Nat.le_of_ble_eq_true rfl) dX12_init_161 ?_
  show BB l D Y mX12_init 164 _ _ [0, 0, 0, 0, 0, 0, 0, 0, 0, 0, 0, 0, 0, 0, 0, 0, 0, 0, 0] [(h0, .inr (10, [.int 0, .ref q1, .ref q2, .ref q3, .ref q4, .ref q5, .ref q6, .ref q7, .int 0, .ref q8, .int 0, .int 0, .long 0, .int 0, .int 0, .int 0, .int 0, .ref q9, .ref q10, .ref q11, .int 0, .ref q12, .ref q13, .ref q14, .ref q15, .ref q16, .ref q17, .ref q18, .ref q19, .null, .null, .null, .null, .null, .null, .null, .null, .null, .int 0, .int 0, .null])), (q1, zA Y 0 8), (q2, zA Y 0 8), (q3, zA Y 0 8), (q4, zA Y 0 8), (q5, zA Y 0 8), (q6, zA Y 0 8), (q7, zA Y 0 15), (q8, zA Y 0 160), (q9, zA Y 0 24), (q10, zA Y 0 24), (q11, zA Y 0 26), (q12, zA Y 0 8), (q13, zA Y 0 192), (q14, zA Y 0 192), (q15, zA Y 0 256), (q16, zA Y 0 256), (q17, zA Y 0 256), (q18, zA Y 0 256), (q19, zA Y 0 256)] 19 1969 _
  refine B_aload 0 rfl rfl dX12_init_164 ?_
  refine B_sipush (v := 256) (by decide) dX12_init_165 ?_
  refine B_newa (t := 0) (n := 256) rfl (by decide) rfl (gm_1 56 rfl rfl) (by decide) (by decide) (Nat.le_of_ble_eq_true rfl) (Nat.le_of_ble_eq_true rfl) (Nat.le_of_ble_eq_true rfl) dX12_init_168 (fun q20 => ?_)
  refine B_putF (f := 29) ci_X12 (by decide) (gm_4 111 rfl rfl) rfl rfl rfl rfl rfl rfl (Nat.le_of_ble_eq_true rfl) dX12_init_170 ?_
  show BB l D Y mX12_init 173 _ _ [0, 0, 0, 0, 0, 0, 0, 0, 0, 0, 0, 0, 0, 0, 0, 0, 0, 0, 0, 0] [(h0, .inr (10, [.int 0, .ref q1, .ref q2, .ref q3, .ref q4, .ref q5, .ref q6, .ref q7, .int 0, .ref q8, .int 0, .int 0, .long 0, .int 0, .int 0, .int 0, .int 0, .ref q9, .ref q10, .ref q11, .int 0, .ref q12, .ref q13, .ref q14, .ref q15, .ref q16, .ref q17, .ref q18, .ref q19, .ref q20, .null, .null, .null, .null, .null, .null, .null, .null, .int 0, .int 0, .null])), (q1, zA Y 0 8), (q2, zA Y 0 8), (q3, zA Y 0 8), (q4, zA Y 0 8), (q5, zA Y 0 8), (q6, zA Y 0 8), (q7, zA Y 0 15), (q8, zA Y 0 160), (q9, zA Y 0 24), (q10, zA Y 0 24), (q11, zA Y 0 26), (q12, zA Y 0 8), (q13, zA Y 0 192), (q14, zA Y 0 192), (q15, zA Y 0 256), (q16, zA Y 0 256), (q17, zA Y 0 256), (q18, zA Y 0 256), (q19, zA Y 0 256), (q20, zA Y 0 256)] 20 2225 _
  refine B_aload 0 rfl rfl dX12_init_173 ?_
  refine B_sipush (v := 256) (by decide) dX12_init_174 ?_
  refine B_newa (t := 1) (n := 256) rfl (by decide) rfl (gm_4 206 rfl rfl) (by decide) (by decide) (Nat.le_of_ble_eq_true rfl) (Nat.le_of_ble_eq_true rfl) (Nat.le_of_ble_eq_true rfl) dX12_init_177 (fun q21 => ?_)
  refine B_putF (f := 30) ci_X12 (by decide) (gm_4 112 rfl rfl) rfl rfl rfl rfl rfl rfl (Nat.le_of_ble_eq_true rfl) dX12_init_179 ?_
  show BB l D Y mX12_init 182 _ _ [0, 0, 0, 0, 0, 0, 0, 0, 0, 0, 0, 0, 0, 0, 0, 0, 0, 0, 0, 0, 1] [(h0, .inr (10, [.int 0, .ref q1, .ref q2, .ref q3, .ref q4, .ref q5, .ref q6, .ref q7, .int 0, .ref q8, .int 0, .int 0, .long 0, .int 0, .int 0, .int 0, .int 0, .ref q9, .ref q10, .ref q11, .int 0, .ref q12, .ref q13, .ref q14, .ref q15, .ref q16, .ref q17, .ref q18, .ref q19, .ref q20, .ref q21, .null, .null, .null, .null, .null, .null, .null, .int 0, .int 0, .null])), (q1, zA Y 0 8), (q2, zA Y 0 8), (q3, zA Y 0 8), (q4, zA Y 0 8), (q5, zA Y 0 8), (q6, zA Y 0 8), (q7, zA Y 0 15), (q8, zA Y 0 160), (q9, zA Y 0 24), (q10, zA Y 0 24), (q11, zA Y 0 26), (q12, zA Y 0 8), (q13, zA Y 0 192), (q14, zA Y 0 192), (q15, zA Y 0 256), (q16, zA Y 0 256), (q17, zA Y 0 256), (q18, zA Y 0 256), (q19, zA Y 0 256), (q20, zA Y 0 256), (q21, zA Y 1 256)] 21 2481 _
  refine B_aload 0 rfl rfl dX12_init_182 ?_
  refine B_bipush (v := 8) (by decide) dX12_init_183 ?_
  refine B_newa (t := 0) (n := 8) rfl (by decide) rfl (gm_1 56 rfl rfl) (by decide) (by decide) (Nat.le_of_ble_eq_true rfl) (Nat.le_of_ble_eq_true rfl) (Nat.le_of_ble_eq_true rfl) dX12_init_185 (fun q22 => ?_)
  refine B_putF (f := 31) ci_X12 (by decide) (gm_4 113 rfl rfl) rfl rfl rfl rfl rfl rfl (Nat.le_of_ble_eq_true rfl) dX12_init_187 ?_
  show BB l D Y mX12_init 190 _ _ [0, 0, 0, 0, 0, 0, 0, 0, 0, 0, 0, 0, 0, 0, 0, 0, 0, 0, 0, 0, 1, 0] [(h0, .inr (10, [.int 0, .ref q1, .ref q2, .ref q3, .ref q4, .ref q5, .ref q6, .ref q7, .int 0, .ref q8, .int 0, .int 0, .long 0, .int 0, .int 0, .int 0, .int 0, .ref q9, .ref q10, .ref q11, .int 0, .ref q12, .ref q13, .ref q14, .ref q15, .ref q16, .ref q17, .ref q18, .ref q19, .ref q20, .ref q21, .ref q22, .null, .null, .null, .null, .null, .null, .int 0, .int 0, .null])), (q1, zA Y 0 8), (q2, zA Y 0 8), (q3, zA Y 0 8), (q4, zA Y 0 8), (q5, zA Y 0 8), (q6, zA Y 0 8), (q7, zA Y 0 15), (q8, zA Y 0 160), (q9, zA Y 0 24), (q10, zA Y 0 24), (q11, zA Y 0 26), (q12, zA Y 0 8), (q13, zA Y 0 192), (q14, zA Y 0 192), (q15, zA Y 0 256), (q16, zA Y 0 256), (q17, zA Y 0 256), (q18, zA Y 0 256), (q19, zA Y 0 256), (q20, zA Y 0 256), (q21, zA Y 1 256), (q22, zA Y 0 8)] 22 2489 _
  refine B_aload 0 rfl rfl dX12_init_190 ?_
  refine B_bipush (v := 8) (by decide) dX12_init_191 ?_
  refine B_newa (t := 0) (n := 8) rfl (by decide) rfl (gm_1 56 rfl rfl) (by decide) (by decide) (Nat.le_of_ble_eq_true rfl) (Nat.le_of_ble_eq_true rfl) (Nat.le_of_ble_eq_true rfl) dX12_init_193 (fun q23 => ?_)
  refine B_putF (f := 32) ci_X12 (by decide) (gm_4 114 rfl rfl) rfl rfl rfl rfl rfl rfl (Nat.le_of_ble_eq_true rfl) dX12_init_195 ?_
  show BB l D Y mX12_init 198 _ _ [0, 0, 0, 0, 0, 0, 0, 0, 0, 0, 0, 0, 0, 0, 0, 0, 0, 0, 0, 0, 1, 0, 0] [(h0, .inr (10, [.int 0, .ref q1, .ref q2, .ref q3, .ref q4, .ref q5, .ref q6, .ref q7, .int 0, .ref q8, .int 0, .int 0, .long 0, .int 0, .int 0, .int 0, .int 0, .ref q9, .ref q10, .ref q11, .int 0, .ref q12, .ref q13, .ref q14, .ref q15, .ref q16, .ref q17, .ref q18, .ref q19, .ref q20, .ref q21, .ref q22, .ref q23, .null, .null, .null, .null, .null, .int 0, .int 0, .null])), (q1, zA Y 0 8), (q2, zA Y 0 8), (q3, zA Y 0 8), (q4, zA Y 0 8), (q5, zA Y 0 8), (q6, zA Y 0 8), (q7, zA Y 0 15), (q8, zA Y 0 160), (q9, zA Y 0 24), (q10, zA Y 0 24), (q11, zA Y 0 26), (q12, zA Y 0 8), (q13, zA Y 0 192), (q14, zA Y 0 192), (q15, zA Y 0 256), (q16, zA Y 0 256), (q17, zA Y 0 256), (q18, zA Y 0 256), (q19, zA Y 0 256), (q20, zA Y 0 256), (q21, zA Y 1 256), (q22, zA Y 0 8), (q23, zA Y 0 8)] 23 2497 _
  refine B_aload 0 rfl rfl dX12_init_198 ?_
  refine B_bipush (v := 8) (by decide) dX12_init_199 ?_
  refine B_newa (t := 0) (n := 8) rfl (by decide) rfl (gm_1 56 rfl rfl) (by decide) (by decide) (Nat.le_of_ble_eq_true rfl) (Nat.le_of_ble_eq_true rfl) (Nat.le_of_ble_eq_true rfl) dX12_init_201 (fun q24 => ?_)
  refine B_putF (f := 33) ci_X12 (by decide) (gm_4 115 rfl rfl) rfl rfl rfl rfl rfl rfl (Nat.le_of_ble_eq_true rfl) dX12_init_203 ?_
  show BB l D Y mX12_init 206 _ _ [0, 0, 0, 0, 0, 0, 0, 0, 0, 0, 0, 0, 0, 0, 0, 0, 0, 0, 0, 0, 1, 0, 0, 0] [(h0, .inr (10, [.int 0, .ref q1, .ref q2, .ref q3, .ref q4, .ref q5, .ref q6, .ref q7, .int 0, .ref q8, .int 0, .int 0, .long 0, .int 0, .int 0, .int 0, .int 0, .ref q9, .ref q10, .ref q11, .int 0, .ref q12, .ref q13, .ref q14, .ref q15, .ref q16, .ref q17, .ref q18, .ref q19, .ref q20, .ref q21, .ref q22, .ref q23, .ref q24, .null, .null, .null, .null, .int 0, .int 0, .null])), (q1, zA Y 0 8), (q2, zA Y 0 8), (q3, zA Y 0 8), (q4, zA Y 0 8), (q5, zA Y 0 8), (q6, zA Y 0 8), (q7, zA Y 0 15), (q8, zA Y 0 160), (q9, zA Y 0 24), (q10, zA Y 0 24), (q11, zA Y 0 26), (q12, zA Y 0 8), (q13, zA Y 0 192), (q14, zA Y 0 192), (q15, zA Y 0 256), (q16, zA Y 0 256), (q17, zA Y 0 256), (q18, zA Y 0 256), (q19, zA Y 0 256), (q20, zA Y 0 256), (q21, zA Y 1 256), (q22, zA Y 0 8), (q23, zA Y 0 8), (q24, zA Y 0 8)] 24 2505 _
  refine B_aload 0 rfl rfl dX12_init_206 ?_
  refine B_bipush (v := 8) (by decide) dX12_init_207 ?_
  refine B_newa (t := 0) (n := 8) rfl (by decide) rfl (gm_1 56 rfl rfl) (by decide) (by decide) (Nat.le_of_ble_eq_true rfl) (Nat.le_of_ble_eq_true rfl) (Nat.le_of_ble_eq_true rfl) dX12_init_209 (fun q25 => ?_)
  refine B_putF (f := 34) ci_X12 (by decide) (gm_4 116 rfl rfl) rfl rfl rfl rfl rfl rfl (Nat.le_of_ble_eq_true rfl) dX12_init_211 ?_
  show BB l D Y mX12_init 214 _ _ [0, 0, 0, 0, 0, 0, 0, 0, 0, 0, 0, 0, 0, 0, 0, 0, 0, 0, 0, 0, 1, 0, 0, 0, 0] [(h0, .inr (10, [.int 0, .ref q1, .ref q2, .ref q3, .ref q4, .ref q5, .ref q6, .ref q7, .int 0, .ref q8, .int 0, .int 0, .long 0, .int 0, .int 0, .int 0, .int 0, .ref q9, .ref q10, .ref q11, .int 0, .ref q12, .ref q13, .ref q14, .ref q15, .ref q16, .ref q17, .ref q18, .ref q19, .ref q20, .ref q21, .ref q22, .ref q23, .ref q24, .ref q25, .null, .null, .null, .int 0, .int 0, .null])), (q1, zA Y 0 8), (q2, zA Y 0 8), (q3, zA Y 0 8), (q4, zA Y 0 8), (q5, zA Y 0 8), (q6, zA Y 0 8), (q7, zA Y 0 15), (q8, zA Y 0 160), (q9, zA Y 0 24), (q10, zA Y 0 24), (q11, zA Y 0 26), (q12, zA Y 0 8), (q13, zA Y 0 192), (q14, zA Y 0 192), (q15, zA Y 0 256), (q16, zA Y 0 256), (q17, zA Y 0 256), (q18, zA Y 0 256), (q19, zA Y 0 256), (q20, zA Y 0 256), (q21, zA Y 1 256), (q22, zA Y 0 8), (q23, zA Y 0 8), (q24, zA Y 0 8), (q25, zA Y 0 8)] 25 2513 _
  refine B_aload 0 rfl rfl dX12_init_214 ?_
  refine B_bipush (v := 8) (by decide) dX12_init_215 ?_
  refine B_newa (t := 0) (n := 8) rfl (by decide) rfl (gm_1 56 rfl rfl) (by decide) (by decide) (Nat.le_of_ble_eq_true rfl) (Nat.le_of_ble_eq_true rfl) (Nat.le_of_ble_eq_true rfl) dX12_init_217 (fun q26 => ?_)
  refine B_putF (f := 35) ci_X12 (by decide) (gm_4 117 rfl rfl) rfl rfl rfl rfl rfl rfl (Nat.le_of_ble_eq_true rfl) dX12_init_219 ?_
  show BB l D Y mX12_init 222 _ _ [0, 0, 0, 0, 0, 0, 0, 0, 0, 0, 0, 0, 0, 0, 0, 0, 0, 0, 0, 0, 1, 0, 0, 0, 0, 0] [(h0, .inr (10, [.int 0, .ref q1, .ref q2, .ref q3, .ref q4, .ref q5, .ref q6, .ref q7, .int 0, .ref q8, .int 0, .int 0, .long 0, .int 0, .int 0, .int 0, .int 0, .ref q9, .ref q10, .ref q11, .int 0, .ref q12, .ref q13, .ref q14, .ref q15, .ref q16, .ref q17, .ref q18, .ref q19, .ref q20, .ref q21, .ref q22, .ref q23, .ref q24, .ref q25, .ref q26, .null, .null, .int 0, .int 0, .null])), (q1, zA Y 0 8), (q2, zA Y 0 8), (q3, zA Y 0 8), (q4, zA Y 0 8), (q5, zA Y 0 8), (q6, zA Y 0 8), (q7, zA Y 0 15), (q8, zA Y 0 160), (q9, zA Y 0 24), (q10, zA Y 0 24), (q11, zA Y 0 26), (q12, zA Y 0 8), (q13, zA Y 0 192), (q14, zA Y 0 192), (q15, zA Y 0 256), (q16, zA Y 0 256), (q17, zA Y 0 256), (q18, zA Y 0 256), (q19, zA Y 0 256), (q20, zA Y 0 256), (q21, zA Y 1 256), (q22, zA Y 0 8), (q23, zA Y 0 8), (q24, zA Y 0 8), (q25, zA Y 0 8), (q26, zA Y 0 8)] 26 2521 _
  refine B_aload 0 rfl rfl dX12_init_222 ?_
  refine B_bipush (v := 8) (by decide) dX12_init_223 ?_
  refine B_newa (t := 0) (n := 8) rfl (by decide) rfl (gm_1 56 rfl rfl) (by decide) (by decide) (Nat.le_of_ble_eq_true rfl) (Nat.le_of_ble_eq_true rfl) (Nat.le_of_ble_eq_true rfl) dX12_init_225 (fun q27 => ?_)
  refine B_putF (f := 36) ci_X12 (by decide) (gm_4 118 rfl rfl) rfl rfl rfl rfl rfl rfl (Nat.le_of_ble_eq_true rfl) dX12_init_227 ?_
  show BB l D Y mX12_init 230 _ _ [0, 0, 0, 0, 0, 0, 0, 0, 0, 0, 0, 0, 0, 0, 0, 0, 0, 0, 0, 0, 1, 0, 0, 0, 0, 0, 0] [(h0, .inr (10, [.int 0, .ref q1, .ref q2, .ref q3, .ref q4, .ref q5, .ref q6, .ref q7, .int 0, .ref q8, .int 0, .int 0, .long 0, .int 0, .int 0, .int 0, .int 0, .ref q9, .ref q10, .ref q11, .int 0, .ref q12, .ref q13, .ref q14, .ref q15, .ref q16, .ref q17, .ref q18, .ref q19, .ref q20, .ref q21, .ref q22, .ref q23, .ref q24, .ref q25, .ref q26, .ref q27, .null, .int 0, .int 0, .null])), (q1, zA Y 0 8), (q2, zA Y 0 8), (q3, zA Y 0 8), (q4, zA Y 0 8), (q5, zA Y 0 8), (q6, zA Y 0 8), (q7, zA Y 0 15), (q8, zA Y 0 160), (q9, zA Y 0 24), (q10, zA Y 0 24), (q11, zA Y 0 26), (q12, zA Y 0 8), (q13, zA Y 0 192), (q14, zA Y 0 192), (q15, zA Y 0 256), (q16, zA Y 0 256), (q17, zA Y 0 256), (q18, zA Y 0 256), (q19, zA Y 0 256), (q20, zA Y 0 256), (q21, zA Y 1 256), (q22, zA Y 0 8), (q23, zA Y 0 8), (q24, zA Y 0 8), (q25, zA Y 0 8), (q26, zA Y 0 8), (q27, zA Y 0 8)] 27 2529 _
  refine B_aload 0 rfl rfl dX12_init_230 ?_
  refine B_sipush (v := 256) (by decide) dX12_init_231 ?_
  refine B_newa (t := 0) (n := 256) rfl (by decide) rfl (gm_1 56 rfl rfl) (by decide) (by decide) (Nat.le_of_ble_eq_true rfl) (Nat.le_of_ble_eq_true rfl) (Nat.le_of_ble_eq_true rfl) dX12_init_234 (fun q28 => ?_)
  refine B_putF (f := 37) ci_X12 (by decide) (gm_4 119 rfl rfl) rfl rfl rfl rfl rfl rfl (Nat.le_of_ble_eq_true rfl) dX12_init_236 ?_
  show BB l D Y mX12_init 239 _ _ [0, 0, 0, 0, 0, 0, 0, 0, 0, 0, 0, 0, 0, 0, 0, 0, 0, 0, 0, 0, 1, 0, 0, 0, 0, 0, 0, 0] [(h0, .inr (10, [.int 0, .ref q1, .ref q2, .ref q3, .ref q4, .ref q5, .ref q6, .ref q7, .int 0, .ref q8, .int 0, .int 0, .long 0, .int 0, .int 0, .int 0, .int 0, .ref q9, .ref q10, .ref q11, .int 0, .ref q12, .ref q13, .ref q14, .ref q15, .ref q16, .ref q17, .ref q18, .ref q19, .ref q20, .ref q21, .ref q22, .ref q23, .ref q24, .ref q25, .ref q26, .ref q27, .ref q28, .int 0, .int 0, .null])), (q1, zA Y 0 8), (q2, zA Y 0 8), (q3, zA Y 0 8), (q4, zA Y 0 8), (q5, zA Y 0 8), (q6, zA Y 0 8), (q7, zA Y 0 15), (q8, zA Y 0 160), (q9, zA Y 0 24), (q10, zA Y 0 24), (q11, zA Y 0 26), (q12, zA Y 0 8), (q13, zA Y 0 192), (q14, zA Y 0 192), (q15, zA Y 0 256), (q16, zA Y 0 256), (q17, zA Y 0 256), (q18, zA Y 0 256), (q19, zA Y 0 256), (q20, zA Y 0 256), (q21, zA Y 1 256), (q22, zA Y 0 8), (q23, zA Y 0 8), (q24, zA Y 0 8), (q25, zA Y 0 8), (q26, zA Y 0 8), (q27, zA Y 0 8), (q28, zA Y 0 256)] 28 2785 _
  refine B_aload 0 rfl rfl dX12_init_239 ?_
  refine B_bipush (v := 12) (by decide) dX12_init_240 ?_
  refine B_newa (t := 0) (n := 12) rfl (by decide) rfl (gm_1 56 rfl rfl) (by decide) (by decide) (Nat.le_of_ble_eq_true rfl) (Nat.le_of_ble_eq_true rfl) (Nat.le_of_ble_eq_true rfl) dX12_init_242 (fun q29 => ?_)
  refine B_putF (f := 40) ci_X12 (by decide) (gm_4 122 rfl rfl) rfl rfl rfl rfl rfl rfl (Nat.le_of_ble_eq_true rfl) dX12_init_244 ?_
  show BB l D Y mX12_init 247 _ _ [0, 0, 0, 0, 0, 0, 0, 0, 0, 0, 0, 0, 0, 0, 0, 0, 0, 0, 0, 0, 1, 0, 0, 0, 0, 0, 0, 0, 0] [(h0, .inr (10, [.int 0, .ref q1, .ref q2, .ref q3, .ref q4, .ref q5, .ref q6, .ref q7, .int 0, .ref q8, .int 0, .int 0, .long 0, .int 0, .int 0, .int 0, .int 0, .ref q9, .ref q10, .ref q11, .int 0, .ref q12, .ref q13, .ref q14, .ref q15, .ref q16, .ref q17, .ref q18, .ref q19, .ref q20, .ref q21, .ref q22, .ref q23, .ref q24, .ref q25, .ref q26, .ref q27, .ref q28, .int 0, .int 0, .ref q29])), (q1, zA Y 0 8), (q2, zA Y 0 8), (q3, zA Y 0 8), (q4, zA Y 0 8), (q5, zA Y 0 8), (q6, zA Y 0 8), (q7, zA Y 0 15), (q8, zA Y 0 160), (q9, zA Y 0 24), (q10, zA Y 0 24), (q11, zA Y 0 26), (q12, zA Y 0 8), (q13, zA Y 0 192), (q14, zA Y 0 192), (q15, zA Y 0 256), (q16, zA Y 0 256), (q17, zA Y 0 256), (q18, zA Y 0 256), (q19, zA Y 0 256), (q20, zA Y 0 256), (q21, zA Y 1 256), (q22, zA Y 0 8), (q23, zA Y 0 8), (q24, zA Y 0 8), (q25, zA Y 0 8), (q26, zA Y 0 8), (q27, zA Y 0 8), (q28, zA Y 0 256), (q29, zA Y 0 12)] 29 2797 _
  refine B_iconst (v := 0) (by decide) dX12_init_247 ?_
  refine B_istore (x := 0) rfl (by decide) rfl dX12_init_248 ?_
  refine B_iload (x := 0) 0 rfl rfl dX12_init_249 ?_
  refine B_bipush (v := 15) (by decide) dX12_init_250 ?_
  refine B_ge (tgt := 268) dX12_init_252 (by decide) (fun q => absurd q (by decide)) (fun _ => ?_)
  refine B_aload 1 rfl rfl dX12_init_255 ?_
  refine B_get (f := 7) ci_X12 (by decide) (gm_4 89 rfl rfl) rfl rfl dX12_init_256 ?_
  refine B_iload (x := 0) 0 rfl rfl dX12_init_259 ?_
  refine B_iconst (v := 1) (by decide) dX12_init_260 ?_
  refine B_iast (a := q7) (n := 15) (f := onesF 0) 7 rfl (by decide) (vp_in_iff.mpr (by decide)) dX12_init_261 ?_
  rw [show upd (onesF 0) (0 : Int32).toNatClampNeg 1 = onesF 1 from ones_up (i := 0) (by decide)]
  show BB l D Y mX12_init 262 _ _ [0, 0, 0, 0, 0, 0, 0, 0, 0, 0, 0, 0, 0, 0, 0, 0, 0, 0, 0, 0, 1, 0, 0, 0, 0, 0, 0, 0, 0] [(h0, .inr (10, [.int 0, .ref q1, .ref q2, .ref q3, .ref q4, .ref q5, .ref q6, .ref q7, .int 0, .ref q8, .int 0, .int 0, .long 0, .int 0, .int 0, .int 0, .int 0, .ref q9, .ref q10, .ref q11, .int 0, .ref q12, .ref q13, .ref q14, .ref q15, .ref q16, .ref q17, .ref q18, .ref q19, .ref q20, .ref q21, .ref q22, .ref q23, .ref q24, .ref q25, .ref q26, .ref q27, .ref q28, .int 0, .int 0, .ref q29])), (q1, zA Y 0 8), (q2, zA Y 0 8), (q3, zA Y 0 8), (q4, zA Y 0 8), (q5, zA Y 0 8), (q6, zA Y 0 8), (q7, prA Y 1), (q8, zA Y 0 160), (q9, zA Y 0 24), (q10, zA Y 0 24), (q11, zA Y 0 26), (q12, zA Y 0 8), (q13, zA Y 0 192), (q14, zA Y 0 192), (q15, zA Y 0 256), (q16, zA Y 0 256), (q17, zA Y 0 256), (q18, zA Y 0 256), (q19, zA Y 0 256), (q20, zA Y 0 256), (q21, zA Y 1 256), (q22, zA Y 0 8), (q23, zA Y 0 8), (q24, zA Y 0 8), (q25, zA Y 0 8), (q26, zA Y 0 8), (q27, zA Y 0 8), (q28, zA Y 0 256), (q29, zA Y 0 12)] 29 2797 _
  refine B_iinc (x := 0) (y := 1) 0 rfl (by decide) (by decide) rfl dX12_init_262 ?_
  refine B_goto (tgt := 249) dX12_init_265 (by decide) ?_
  refine B_iload (x := 1) 0 rfl rfl dX12_init_249 ?_
  refine B_bipush (v := 15) (by decide) dX12_init_250 ?_
  refine B_ge (tgt := 268) dX12_init_252 (by decide) (fun q => absurd q (by decide)) (fun _ => ?_)
  refine B_aload 1 rfl rfl dX12_init_255 ?_
  refine B_get (f := 7) ci_X12 (by decide) (gm_4 89 rfl rfl) rfl rfl dX12_init_256 ?_
  refine B_iload (x := 1) 0 rfl rfl dX12_init_259 ?_
  refine B_iconst (v := 1) (by decide) dX12_init_260 ?_
  refine B_iast (a := q7) (n := 15) (f := onesF 1) 7 rfl (by decide) (vp_in_iff.mpr (by decide)) dX12_init_261 ?_
  rw [show upd (onesF 1) (1 : Int32).toNatClampNeg 1 = onesF 2 from ones_up (i := 1) (by decide)]
  show BB l D Y mX12_init 262 _ _ [0, 0, 0, 0, 0, 0, 0, 0, 0, 0, 0, 0, 0, 0, 0, 0, 0, 0, 0, 0, 1, 0, 0, 0, 0, 0, 0, 0, 0] [(h0, .inr (10, [.int 0, .ref q1, .ref q2, .ref q3, .ref q4, .ref q5, .ref q6, .ref q7, .int 0, .ref q8, .int 0, .int 0, .long 0, .int 0, .int 0, .int 0, .int 0, .ref q9, .ref q10, .ref q11, .int 0, .ref q12, .ref q13, .ref q14, .ref q15, .ref q16, .ref q17, .ref q18, .ref q19, .ref q20, .ref q21, .ref q22, .ref q23, .ref q24, .ref q25, .ref q26, .ref q27, .ref q28, .int 0, .int 0, .ref q29])), (q1, zA Y 0 8), (q2, zA Y 0 8), (q3, zA Y 0 8), (q4, zA Y 0 8), (q5, zA Y 0 8), (q6, zA Y 0 8), (q7, prA Y 2), (q8, zA Y 0 160), (q9, zA Y 0 24), (q10, zA Y 0 24), (q11, zA Y 0 26), (q12, zA Y 0 8), (q13, zA Y 0 192), (q14, zA Y 0 192), (q15, zA Y 0 256), (q16, zA Y 0 256), (q17, zA Y 0 256), (q18, zA Y 0 256), (q19, zA Y 0 256), (q20, zA Y 0 256), (q21, zA Y 1 256), (q22, zA Y 0 8), (q23, zA Y 0 8), (q24, zA Y 0 8), (q25, zA Y 0 8), (q26, zA Y 0 8), (q27, zA Y 0 8), (q28, zA Y 0 256), (q29, zA Y 0 12)] 29 2797 _
  refine B_iinc (x := 1) (y := 2) 0 rfl (by decide) (by decide) rfl dX12_init_262 ?_
  refine B_goto (tgt := 249) dX12_init_265 (by decide) ?_
  refine B_iload (x := 2) 0 rfl rfl dX12_init_249 ?_
  refine B_bipush (v := 15) (by decide) dX12_init_250 ?_
  refine B_ge (tgt := 268) dX12_init_252 (by decide) (fun q => absurd q (by decide)) (fun _ => ?_)
  refine B_aload 1 rfl rfl dX12_init_255 ?_
  refine B_get (f := 7) ci_X12 (by decide) (gm_4 89 rfl rfl) rfl rfl dX12_init_256 ?_
  refine B_iload (x := 2) 0 rfl rfl dX12_init_259 ?_
  refine B_iconst (v := 1) (by decide) dX12_init_260 ?_
  refine B_iast (a := q7) (n := 15) (f := onesF 2) 7 rfl (by decide) (vp_in_iff.mpr (by decide)) dX12_init_261 ?_
  rw [show upd (onesF 2) (2 : Int32).toNatClampNeg 1 = onesF 3 from ones_up (i := 2) (by decide)]
  show BB l D Y mX12_init 262 _ _ [0, 0, 0, 0, 0, 0, 0, 0, 0, 0, 0, 0, 0, 0, 0, 0, 0, 0, 0, 0, 1, 0, 0, 0, 0, 0, 0, 0, 0] [(h0, .inr (10, [.int 0, .ref q1, .ref q2, .ref q3, .ref q4, .ref q5, .ref q6, .ref q7, .int 0, .ref q8, .int 0, .int 0, .long 0, .int 0, .int 0, .int 0, .int 0, .ref q9, .ref q10, .ref q11, .int 0, .ref q12, .ref q13, .ref q14, .ref q15, .ref q16, .ref q17, .ref q18, .ref q19, .ref q20, .ref q21, .ref q22, .ref q23, .ref q24, .ref q25, .ref q26, .ref q27, .ref q28, .int 0, .int 0, .ref q29])), (q1, zA Y 0 8), (q2, zA Y 0 8), (q3, zA Y 0 8), (q4, zA Y 0 8), (q5, zA Y 0 8), (q6, zA Y 0 8), (q7, prA Y 3), (q8, zA Y 0 160), (q9, zA Y 0 24), (q10, zA Y 0 24), (q11, zA Y 0 26), (q12, zA Y 0 8), (q13, zA Y 0 192), (q14, zA Y 0 192), (q15, zA Y 0 256), (q16, zA Y 0 256), (q17, zA Y 0 256), (q18, zA Y 0 256), (q19, zA Y 0 256), (q20, zA Y 0 256), (q21, zA Y 1 256), (q22, zA Y 0 8), (q23, zA Y 0 8), (q24, zA Y 0 8), (q25, zA Y 0 8), (q26, zA Y 0 8), (q27, zA Y 0 8), (q28, zA Y 0 256), (q29, zA Y 0 12)] 29 2797 _
  refine B_iinc (x := 2) (y := 3) 0 rfl (by decide) (by decide) rfl dX12_init_262 ?_
  refine B_goto (tgt := 249) dX12_init_265 (by decide) ?_
  refine B_iload (x := 3) 0 rfl rfl dX12_init_249 ?_
  refine B_bipush (v := 15) (by decide) dX12_init_250 ?_
  refine B_ge (tgt := 268) dX12_init_252 (by decide) (fun q => absurd q (by decide)) (fun _ => ?_)
  refine B_aload 1 rfl rfl dX12_init_255 ?_
  refine B_get (f := 7) ci_X12 (by decide) (gm_4 89 rfl rfl) rfl rfl dX12_init_256 ?_
  refine B_iload (x := 3) 0 rfl rfl dX12_init_259 ?_
  refine B_iconst (v := 1) (by decide) dX12_init_260 ?_
  refine B_iast (a := q7) (n := 15) (f := onesF 3) 7 rfl (by decide) (vp_in_iff.mpr (by decide)) dX12_init_261 ?_
  rw [show upd (onesF 3) (3 : Int32).toNatClampNeg 1 = onesF 4 from ones_up (i := 3) (by decide)]
  show BB l D Y mX12_init 262 _ _ [0, 0, 0, 0, 0, 0, 0, 0, 0, 0, 0, 0, 0, 0, 0, 0, 0, 0, 0, 0, 1, 0, 0, 0, 0, 0, 0, 0, 0] [(h0, .inr (10, [.int 0, .ref q1, .ref q2, .ref q3, .ref q4, .ref q5, .ref q6, .ref q7, .int 0, .ref q8, .int 0, .int 0, .long 0, .int 0, .int 0, .int 0, .int 0, .ref q9, .ref q10, .ref q11, .int 0, .ref q12, .ref q13, .ref q14, .ref q15, .ref q16, .ref q17, .ref q18, .ref q19, .ref q20, .ref q21, .ref q22, .ref q23, .ref q24, .ref q25, .ref q26, .ref q27, .ref q28, .int 0, .int 0, .ref q29])), (q1, zA Y 0 8), (q2, zA Y 0 8), (q3, zA Y 0 8), (q4, zA Y 0 8), (q5, zA Y 0 8), (q6, zA Y 0 8), (q7, prA Y 4), (q8, zA Y 0 160), (q9, zA Y 0 24), (q10, zA Y 0 24), (q11, zA Y 0 26), (q12, zA Y 0 8), (q13, zA Y 0 192), (q14, zA Y 0 192), (q15, zA Y 0 256), (q16, zA Y 0 256), (q17, zA Y 0 256), (q18, zA Y 0 256), (q19, zA Y 0 256), (q20, zA Y 0 256), (q21, zA Y 1 256), (q22, zA Y 0 8), (q23, zA Y 0 8), (q24, zA Y 0 8), (q25, zA Y 0 8), (q26, zA Y 0 8), (q27, zA Y 0 8), (q28, zA Y 0 256), (q29, zA Y 0 12)] 29 2797 _
  refine B_iinc (x := 3) (y := 4) 0 rfl (by decide) (by decide) rfl dX12_init_262 ?_
  refine B_goto (tgt := 249) dX12_init_265 (by decide) ?_
  refine B_iload (x := 4) 0 rfl rfl dX12_init_249 ?_
  refine B_bipush (v := 15) (by decide) dX12_init_250 ?_
  refine B_ge (tgt := 268) dX12_init_252 (by decide) (fun q => absurd q (by decide)) (fun _ => ?_)
  refine B_aload 1 rfl rfl dX12_init_255 ?_
  refine B_get (f := 7) ci_X12 (by decide) (gm_4 89 rfl rfl) rfl rfl dX12_init_256 ?_
  refine B_iload (x := 4) 0 rfl rfl dX12_init_259 ?_
  refine B_iconst (v := 1) (by decide) dX12_init_260 ?_
  refine B_iast (a := q7) (n := 15) (f := onesF 4) 7 rfl (by decide) (vp_in_iff.mpr (by decide)) dX12_init_261 ?_
  rw [show upd (onesF 4) (4 : Int32).toNatClampNeg 1 = onesF 5 from ones_up (i := 4) (by decide)]
  show BB l D Y mX12_init 262 _ _ [0, 0, 0, 0, 0, 0, 0, 0, 0, 0, 0, 0, 0, 0, 0, 0, 0, 0, 0, 0, 1, 0, 0, 0, 0, 0, 0, 0, 0] [(h0, .inr (10, [.int 0, .ref q1, .ref q2, .ref q3, .ref q4, .ref q5, .ref q6, .ref q7, .int 0, .ref q8, .int 0, .int 0, .long 0, .int 0, .int 0, .int 0, .int 0, .ref q9, .ref q10, .ref q11, .int 0, .ref q12, .ref q13, .ref q14, .ref q15, .ref q16, .ref q17, .ref q18, .ref q19, .ref q20, .ref q21, .ref q22, .ref q23, .ref q24, .ref q25, .ref q26, .ref q27, .ref q28, .int 0, .int 0, .ref q29])), (q1, zA Y 0 8), (q2, zA Y 0 8), (q3, zA Y 0 8), (q4, zA Y 0 8), (q5, zA Y 0 8), (q6, zA Y 0 8), (q7, prA Y 5), (q8, zA Y 0 160), (q9, zA Y 0 24), (q10, zA Y 0 24), (q11, zA Y 0 26), (q12, zA Y 0 8), (q13, zA Y 0 192), (q14, zA Y 0 192), (q15, zA Y 0 256), (q16, zA Y 0 256), (q17, zA Y 0 256), (q18, zA Y 0 256), (q19, zA Y 0 256), (q20, zA Y 0 256), (q21, zA Y 1 256), (q22, zA Y 0 8), (q23, zA Y 0 8), (q24, zA Y 0 8), (q25, zA Y 0 8), (q26, zA Y 0 8), (q27, zA Y 0 8), (q28, zA Y 0 256), (q29, zA Y 0 12)] 29 2797 _
  refine B_iinc (x := 4) (y := 5) 0 rfl (by decide) (by decide) rfl dX12_init_262 ?_
  refine B_goto (tgt := 249) dX12_init_265 (by decide) ?_
  refine B_iload (x := 5) 0 rfl rfl dX12_init_249 ?_
  refine B_bipush (v := 15) (by decide) dX12_init_250 ?_
  refine B_ge (tgt := 268) dX12_init_252 (by decide) (fun q => absurd q (by decide)) (fun _ => ?_)
  refine B_aload 1 rfl rfl dX12_init_255 ?_
  refine B_get (f := 7) ci_X12 (by decide) (gm_4 89 rfl rfl) rfl rfl dX12_init_256 ?_
  refine B_iload (x := 5) 0 rfl rfl dX12_init_259 ?_
  refine B_iconst (v := 1) (by decide) dX12_init_260 ?_
  refine B_iast (a := q7) (n := 15) (f := onesF 5) 7 rfl (by decide) (vp_in_iff.mpr (by decide)) dX12_init_261 ?_
  rw [show upd (onesF 5) (5 : Int32).toNatClampNeg 1 = onesF 6 from ones_up (i := 5) (by decide)]
  show BB l D Y mX12_init 262 _ _ [0, 0, 0, 0, 0, 0, 0, 0, 0, 0, 0, 0, 0, 0, 0, 0, 0, 0, 0, 0, 1, 0, 0, 0, 0, 0, 0, 0, 0] [(h0, .inr (10, [.int 0, .ref q1, .ref q2, .ref q3, .ref q4, .ref q5, .ref q6, .ref q7, .int 0, .ref q8, .int 0, .int 0, .long 0, .int 0, .int 0, .int 0, .int 0, .ref q9, .ref q10, .ref q11, .int 0, .ref q12, .ref q13, .ref q14, .ref q15, .ref q16, .ref q17, .ref q18, .ref q19, .ref q20, .ref q21, .ref q22, .ref q23, .ref q24, .ref q25, .ref q26, .ref q27, .ref q28, .int 0, .int 0, .ref q29])), (q1, zA Y 0 8), (q2, zA Y 0 8), (q3, zA Y 0 8), (q4, zA Y 0 8), (q5, zA Y 0 8), (q6, zA Y 0 8), (q7, prA Y 6), (q8, zA Y 0 160), (q9, zA Y 0 24), (q10, zA Y 0 24), (q11, zA Y 0 26), (q12, zA Y 0 8), (q13, zA Y 0 192), (q14, zA Y 0 192), (q15, zA Y 0 256), (q16, zA Y 0 256), (q17, zA Y 0 256), (q18, zA Y 0 256), (q19, zA Y 0 256), (q20, zA Y 0 256), (q21, zA Y 1 256), (q22, zA Y 0 8), (q23, zA Y 0 8), (q24, zA Y 0 8), (q25, zA Y 0 8), (q26, zA Y 0 8), (q27, zA Y 0 8), (q28, zA Y 0 256), (q29, zA Y 0 12)] 29 2797 _
  refine B_iinc (x := 5) (y := 6) 0 rfl (by decide) (by decide) rfl dX12_init_262 ?_
  refine B_goto (tgt := 249) dX12_init_265 (by decide) ?_
  refine B_iload (x := 6) 0 rfl rfl dX12_init_249 ?_
  refine B_bipush (v := 15) (by decide) dX12_init_250 ?_
  refine B_ge (tgt := 268) dX12_init_252 (by decide) (fun q => absurd q (by decide)) (fun _ => ?_)
  refine B_aload 1 rfl rfl dX12_init_255 ?_
  refine B_get (f := 7) ci_X12 (by decide) (gm_4 89 rfl rfl) rfl rfl dX12_init_256 ?_
  refine B_iload (x := 6) 0 rfl rfl dX12_init_259 ?_
  refine B_iconst (v := 1) (by decide) dX12_init_260 ?_
  refine B_iast (a := q7) (n := 15) (f := onesF 6) 7 rfl (by decide) (vp_in_iff.mpr (by decide)) dX12_init_261 ?_
  rw [show upd (onesF 6) (6 : Int32).toNatClampNeg 1 = onesF 7 from ones_up (i := 6) (by decide)]
  show BB l D Y mX12_init 262 _ _ [0, 0, 0, 0, 0, 0, 0, 0, 0, 0, 0, 0, 0, 0, 0, 0, 0, 0, 0, 0, 1, 0, 0, 0, 0, 0, 0, 0, 0] [(h0, .inr (10, [.int 0, .ref q1, .ref q2, .ref q3, .ref q4, .ref q5, .ref q6, .ref q7, .int 0, .ref q8, .int 0, .int 0, .long 0, .int 0, .int 0, .int 0, .int 0, .ref q9, .ref q10, .ref q11, .int 0, .ref q12, .ref q13, .ref q14, .ref q15, .ref q16, .ref q17, .ref q18, .ref q19, .ref q20, .ref q21, .ref q22, .ref q23, .ref q24, .ref q25, .ref q26, .ref q27, .ref q28, .int 0, .int 0, .ref q29])), (q1, zA Y 0 8), (q2, zA Y 0 8), (q3, zA Y 0 8), (q4, zA Y 0 8), (q5, zA Y 0 8), (q6, zA Y 0 8), (q7, prA Y 7), (q8, zA Y 0 160), (q9, zA Y 0 24), (q10, zA Y 0 24), (q11, zA Y 0 26), (q12, zA Y 0 8), (q13, zA Y 0 192), (q14, zA Y 0 192), (q15, zA Y 0 256), (q16, zA Y 0 256), (q17, zA Y 0 256), (q18, zA Y 0 256), (q19, zA Y 0 256), (q20, zA Y 0 256), (q21, zA Y 1 256), (q22, zA Y 0 8), (q23, zA Y 0 8), (q24, zA Y 0 8), (q25, zA Y 0 8), (q26, zA Y 0 8), (q27, zA Y 0 8), (q28, zA Y 0 256), (q29, zA Y 0 12)] 29 2797 _
  refine B_iinc (x := 6) (y := 7) 0 rfl (by decide) (by decide) rfl dX12_init_262 ?_
  refine B_goto (tgt := 249) dX12_init_265 (by decide) ?_
  refine B_iload (x := 7) 0 rfl rfl dX12_init_249 ?_
  refine B_bipush (v := 15) (by decide) dX12_init_250 ?_
  refine B_ge (tgt := 268) dX12_init_252 (by decide) (fun q => absurd q (by decide)) (fun _ => ?_)
  refine B_aload 1 rfl rfl dX12_init_255 ?_
  refine B_get (f := 7) ci_X12 (by decide) (gm_4 89 rfl rfl) rfl rfl dX12_init_256 ?_
  refine B_iload (x := 7) 0 rfl rfl dX12_init_259 ?_
  refine B_iconst (v := 1) (by decide) dX12_init_260 ?_
  refine B_iast (a := q7) (n := 15) (f := onesF 7) 7 rfl (by decide) (vp_in_iff.mpr (by decide)) dX12_init_261 ?_
  rw [show upd (onesF 7) (7 : Int32).toNatClampNeg 1 = onesF 8 from ones_up (i := 7) (by decide)]
  show BB l D Y mX12_init 262 _ _ [0, 0, 0, 0, 0, 0, 0, 0, 0, 0, 0, 0, 0, 0, 0, 0, 0, 0, 0, 0, 1, 0, 0, 0, 0, 0, 0, 0, 0] [(h0, .inr (10, [.int 0, .ref q1, .ref q2, .ref q3, .ref q4, .ref q5, .ref q6, .ref q7, .int 0, .ref q8, .int 0, .int 0, .long 0, .int 0, .int 0, .int 0, .int 0, .ref q9, .ref q10, .ref q11, .int 0, .ref q12, .ref q13, .ref q14, .ref q15, .ref q16, .ref q17, .ref q18, .ref q19, .ref q20, .ref q21, .ref q22, .ref q23, .ref q24, .ref q25, .ref q26, .ref q27, .ref q28, .int 0, .int 0, .ref q29])), (q1, zA Y 0 8), (q2, zA Y 0 8), (q3, zA Y 0 8), (q4, zA Y 0 8), (q5, zA Y 0 8), (q6, zA Y 0 8), (q7, prA Y 8), (q8, zA Y 0 160), (q9, zA Y 0 24), (q10, zA Y 0 24), (q11, zA Y 0 26), (q12, zA Y 0 8), (q13, zA Y 0 192), (q14, zA Y 0 192), (q15, zA Y 0 256), (q16, zA Y 0 256), (q17, zA Y 0 256), (q18, zA Y 0 256), (q19, zA Y 0 256), (q20, zA Y 0 256), (q21, zA Y 1 256), (q22, zA Y 0 8), (q23, zA Y 0 8), (q24, zA Y 0 8), (q25, zA Y 0 8), (q26, zA Y 0 8), (q27, zA Y 0 8), (q28, zA Y 0 256), (q29, zA Y 0 12)] 29 2797 _
  refine B_iinc (x := 7) (y := 8) 0 rfl (by decide) (by decide) rfl dX12_init_262 ?_
  refine B_goto (tgt := 249) dX12_init_265 (by decide) ?_
  refine B_iload (x := 8) 0 rfl rfl dX12_init_249 ?_
  refine B_bipush (v := 15) (by decide) dX12_init_250 ?_
  refine B_ge (tgt := 268) dX12_init_252 (by decide) (fun q => absurd q (by decide)) (fun _ => ?_)
  refine B_aload 1 rfl rfl dX12_init_255 ?_
  refine B_get (f := 7) ci_X12 (by decide) (gm_4 89 rfl rfl) rfl rfl dX12_init_256 ?_
  refine B_iload (x := 8) 0 rfl rfl dX12_init_259 ?_
  refine B_iconst (v := 1) (by decide) dX12_init_260 ?_
  refine B_iast (a := q7) (n := 15) (f := onesF 8) 7 rfl (by decide) (vp_in_iff.mpr (by decide)) dX12_init_261 ?_
  rw [show upd (onesF 8) (8 : Int32).toNatClampNeg 1 = onesF 9 from ones_up (i := 8) (by decide)]
  show BB l D Y mX12_init 262 _ _ [0, 0, 0, 0, 0, 0, 0, 0, 0, 0, 0, 0, 0, 0, 0, 0, 0, 0, 0, 0, 1, 0, 0, 0, 0, 0, 0, 0, 0] [(h0, .inr (10, [.int 0, .ref q1, .ref q2, .ref q3, .ref q4, .ref q5, .ref q6, .ref q7, .int 0, .ref q8, .int 0, .int 0, .long 0, .int 0, .int 0, .int 0, .int 0, .ref q9, .ref q10, .ref q11, .int 0, .ref q12, .ref q13, .ref q14, .ref q15, .ref q16, .ref q17, .ref q18, .ref q19, .ref q20, .ref q21, .ref q22, .ref q23, .ref q24, .ref q25, .ref q26, .ref q27, .ref q28, .int 0, .int 0, .ref q29])), (q1, zA Y 0 8), (q2, zA Y 0 8), (q3, zA Y 0 8), (q4, zA Y 0 8), (q5, zA Y 0 8), (q6, zA Y 0 8), (q7, prA Y 9), (q8, zA Y 0 160), (q9, zA Y 0 24), (q10, zA Y 0 24), (q11, zA Y 0 26), (q12, zA Y 0 8), (q13, zA Y 0 192), (q14, zA Y 0 192), (q15, zA Y 0 256), (q16, zA Y 0 256), (q17, zA Y 0 256), (q18, zA Y 0 256), (q19, zA Y 0 256), (q20, zA Y 0 256), (q21, zA Y 1 256), (q22, zA Y 0 8), (q23, zA Y 0 8), (q24, zA Y 0 8), (q25, zA Y 0 8), (q26, zA Y 0 8), (q27, zA Y 0 8), (q28, zA Y 0 256), (q29, zA Y 0 12)] 29 2797 _
  refine B_iinc (x := 8) (y := 9) 0 rfl (by decide) (by decide) rfl dX12_init_262 ?_
  refine B_goto (tgt := 249) dX12_init_265 (by decide) ?_
  refine B_iload (x := 9) 0 rfl rfl dX12_init_249 ?_
  refine B_bipush (v := 15) (by decide) dX12_init_250 ?_
  refine B_ge (tgt := 268) dX12_init_252 (by decide) (fun q => absurd q (by decide)) (fun _ => ?_)
  refine B_aload 1 rfl rfl dX12_init_255 ?_
  refine B_get (f := 7) ci_X12 (by decide) (gm_4 89 rfl rfl) rfl rfl dX12_init_256 ?_
  refine B_iload (x := 9) 0 rfl rfl dX12_init_259 ?_
  refine B_iconst (v := 1) (by decide) dX12_init_260 ?_
  refine B_iast (a := q7) (n := 15) (f := onesF 9) 7 rfl (by decide) (vp_in_iff.mpr (by decide)) dX12_init_261 ?_
  rw [show upd (onesF 9) (9 : Int32).toNatClampNeg 1 = onesF 10 from ones_up (i := 9) (by decide)]
  show BB l D Y mX12_init 262 _ _ [0, 0, 0, 0, 0, 0, 0, 0, 0, 0, 0, 0, 0, 0, 0, 0, 0, 0, 0, 0, 1, 0, 0, 0, 0, 0, 0, 0, 0] [(h0, .inr (10, [.int 0, .ref q1, .ref q2, .ref q3, .ref q4, .ref q5, .ref q6, .ref q7, .int 0, .ref q8, .int 0, .int 0, .long 0, .int 0, .int 0, .int 0, .int 0, .ref q9, .ref q10, .ref q11, .int 0, .ref q12, .ref q13, .ref q14, .ref q15, .ref q16, .ref q17, .ref q18, .ref q19, .ref q20, .ref q21, .ref q22, .ref q23, .ref q24, .ref q25, .ref q26, .ref q27, .ref q28, .int 0, .int 0, .ref q29])), (q1, zA Y 0 8), (q2, zA Y 0 8), (q3, zA Y 0 8), (q4, zA Y 0 8), (q5, zA Y 0 8), (q6, zA Y 0 8), (q7, prA Y 10), (q8, zA Y 0 160), (q9, zA Y 0 24), (q10, zA Y 0 24), (q11, zA Y 0 26), (q12, zA Y 0 8), (q13, zA Y 0 192), (q14, zA Y 0 192), (q15, zA Y 0 256), (q16, zA Y 0 256), (q17, zA Y 0 256), (q18, zA Y 0 256), (q19, zA Y 0 256), (q20, zA Y 0 256), (q21, zA Y 1 256), (q22, zA Y 0 8), (q23, zA Y 0 8), (q24, zA Y 0 8), (q25, zA Y 0 8), (q26, zA Y 0 8), (q27, zA Y 0 8), (q28, zA Y 0 256), (q29, zA Y 0 12)] 29 2797 _
  refine B_iinc (x := 9) (y := 10) 0 rfl (by decide) (by decide) rfl dX12_init_262 ?_
  refine B_goto (tgt := 249) dX12_init_265 (by decide) ?_
  refine B_iload (x := 10) 0 rfl rfl dX12_init_249 ?_
  refine B_bipush (v := 15) (by decide) dX12_init_250 ?_
  refine B_ge (tgt := 268) dX12_init_252 (by decide) (fun q => absurd q (by decide)) (fun _ => ?_)
  refine B_aload 1 rfl rfl dX12_init_255 ?_
  refine B_get (f := 7) ci_X12 (by decide) (gm_4 89 rfl rfl) rfl rfl dX12_init_256 ?_
  refine B_iload (x := 10) 0 rfl rfl dX12_init_259 ?_
  refine B_iconst (v := 1) (by decide) dX12_init_260 ?_
  refine B_iast (a := q7) (n := 15) (f := onesF 10) 7 rfl (by decide) (vp_in_iff.mpr (by decide)) dX12_init_261 ?_
  rw [show upd (onesF 10) (10 : Int32).toNatClampNeg 1 = onesF 11 from ones_up (i := 10) (by decide)]
  show BB l D Y mX12_init 262 _ _ [0, 0, 0, 0, 0, 0, 0, 0, 0, 0, 0, 0, 0, 0, 0, 0, 0, 0, 0, 0, 1, 0, 0, 0, 0, 0, 0, 0, 0] [(h0, .inr (10, [.int 0, .ref q1, .ref q2, .ref q3, .ref q4, .ref q5, .ref q6, .ref q7, .int 0, .ref q8, .int 0, .int 0, .long 0, .int 0, .int 0, .int 0, .int 0, .ref q9, .ref q10, .ref q11, .int 0, .ref q12, .ref q13, .ref q14, .ref q15, .ref q16, .ref q17, .ref q18, .ref q19, .ref q20, .ref q21, .ref q22, .ref q23, .ref q24, .ref q25, .ref q26, .ref q27, .ref q28, .int 0, .int 0, .ref q29])), (q1, zA Y 0 8), (q2, zA Y 0 8), (q3, zA Y 0 8), (q4, zA Y 0 8), (q5, zA Y 0 8), (q6, zA Y 0 8), (q7, prA Y 11), (q8, zA Y 0 160), (q9, zA Y 0 24), (q10, zA Y 0 24), (q11, zA Y 0 26), (q12, zA Y 0 8), (q13, zA Y 0 192), (q14, zA Y 0 192), (q15, zA Y 0 256), (q16, zA Y 0 256), (q17, zA Y 0 256), (q18, zA Y 0 256), (q19, zA Y 0 256), (q20, zA Y 0 256), (q21, zA Y 1 256), (q22, zA Y 0 8), (q23, zA Y 0 8), (q24, zA Y 0 8), (q25, zA Y 0 8), (q26, zA Y 0 8), (q27, zA Y 0 8), (q28, zA Y 0 256), (q29, zA Y 0 12)] 29 2797 _
  refine B_iinc (x := 10) (y := 11) 0 rfl (by decide) (by decide) rfl dX12_init_262 ?_
  refine B_goto (tgt := 249) dX12_init_265 (by decide) ?_
  refine B_iload (x := 11) 0 rfl rfl dX12_init_249 ?_
  refine B_bipush (v := 15) (by decide) dX12_init_250 ?_
  refine B_ge (tgt := 268) dX12_init_252 (by decide) (fun q => absurd q (by decide)) (fun _ => ?_)
  refine B_aload 1 rfl rfl dX12_init_255 ?_
  refine B_get (f := 7) ci_X12 (by decide) (gm_4 89 rfl rfl) rfl rfl dX12_init_256 ?_
  refine B_iload (x := 11) 0 rfl rfl dX12_init_259 ?_
  refine B_iconst (v := 1) (by decide) dX12_init_260 ?_
  refine B_iast (a := q7) (n := 15) (f := onesF 11) 7 rfl (by decide) (vp_in_iff.mpr (by decide)) dX12_init_261 ?_
  rw [show upd (onesF 11) (11 : Int32).toNatClampNeg 1 = onesF 12 from ones_up (i := 11) (by decide)]
  show BB l D Y mX12_init 262 _ _ [0, 0, 0, 0, 0, 0, 0, 0, 0, 0, 0, 0, 0, 0, 0, 0, 0, 0, 0, 0, 1, 0, 0, 0, 0, 0, 0, 0, 0] [(h0, .inr (10, [.int 0, .ref q1, .ref q2, .ref q3, .ref q4, .ref q5, .ref q6, .ref q7, .int 0, .ref q8, .int 0, .int 0, .long 0, .int 0, .int 0, .int 0, .int 0, .ref q9, .ref q10, .ref q11, .int 0, .ref q12, .ref q13, .ref q14, .ref q15, .ref q16, .ref q17, .ref q18, .ref q19, .ref q20, .ref q21, .ref q22, .ref q23, .ref q24, .ref q25, .ref q26, .ref q27, .ref q28, .int 0, .int 0, .ref q29])), (q1, zA Y 0 8), (q2, zA Y 0 8), (q3, zA Y 0 8), (q4, zA Y 0 8), (q5, zA Y 0 8), (q6, zA Y 0 8), (q7, prA Y 12), (q8, zA Y 0 160), (q9, zA Y 0 24), (q10, zA Y 0 24), (q11, zA Y 0 26), (q12, zA Y 0 8), (q13, zA Y 0 192), (q14, zA Y 0 192), (q15, zA Y 0 256), (q16, zA Y 0 256), (q17, zA Y 0 256), (q18, zA Y 0 256), (q19, zA Y 0 256), (q20, zA Y 0 256), (q21, zA Y 1 256), (q22, zA Y 0 8), (q23, zA Y 0 8), (q24, zA Y 0 8), (q25, zA Y 0 8), (q26, zA Y 0 8), (q27, zA Y 0 8), (q28, zA Y 0 256), (q29, zA Y 0 12)] 29 2797 _
  refine B_iinc (x := 11) (y := 12) 0 rfl (by decide) (by decide) rfl dX12_init_262 ?_
  refine B_goto (tgt := 249) dX12_init_265 (by decide) ?_
  refine B_iload (x := 12) 0 rfl rfl dX12_init_249 ?_
  refine B_bipush (v := 15) (by decide) dX12_init_250 ?_
  refine B_ge (tgt := 268) dX12_init_252 (by decide) (fun q => absurd q (by decide)) (fun _ => ?_)
  refine B_aload 1 rfl rfl dX12_init_255 ?_
  refine B_get (f := 7) ci_X12 (by decide) (gm_4 89 rfl rfl) rfl rfl dX12_init_256 ?_
  refine B_iload (x := 12) 0 rfl rfl dX12_init_259 ?_
  refine B_iconst (v := 1) (by decide) dX12_init_260 ?_
  refine B_iast (a := q7) (n := 15) (f := onesF 12) 7 rfl (by decide) (vp_in_iff.mpr (by decide)) dX12_init_261 ?_
  rw [show upd (onesF 12) (12 : Int32).toNatClampNeg 1 = onesF 13 from ones_up (i := 12) (by decide)]
  show BB l D Y mX12_init 262 _ _ [0, 0, 0, 0, 0, 0, 0, 0, 0, 0, 0, 0, 0, 0, 0, 0, 0, 0, 0, 0, 1, 0, 0, 0, 0, 0, 0, 0, 0] [(h0, .inr (10, [.int 0, .ref q1, .ref q2, .ref q3, .ref q4, .ref q5, .ref q6, .ref q7, .int 0, .ref q8, .int 0, .int 0, .long 0, .int 0, .int 0, .int 0, .int 0, .ref q9, .ref q10, .ref q11, .int 0, .ref q12, .ref q13, .ref q14, .ref q15, .ref q16, .ref q17, .ref q18, .ref q19, .ref q20, .ref q21, .ref q22, .ref q23, .ref q24, .ref q25, .ref q26, .ref q27, .ref q28, .int 0, .int 0, .ref q29])), (q1, zA Y 0 8), (q2, zA Y 0 8), (q3, zA Y 0 8), (q4, zA Y 0 8), (q5, zA Y 0 8), (q6, zA Y 0 8), (q7, prA Y 13), (q8, zA Y 0 160), (q9, zA Y 0 24), (q10, zA Y 0 24), (q11, zA Y 0 26), (q12, zA Y 0 8), (q13, zA Y 0 192), (q14, zA Y 0 192), (q15, zA Y 0 256), (q16, zA Y 0 256), (q17, zA Y 0 256), (q18, zA Y 0 256), (q19, zA Y 0 256), (q20, zA Y 0 256), (q21, zA Y 1 256), (q22, zA Y 0 8), (q23, zA Y 0 8), (q24, zA Y 0 8), (q25, zA Y 0 8), (q26, zA Y 0 8), (q27, zA Y 0 8), (q28, zA Y 0 256), (q29, zA Y 0 12)] 29 2797 _
  refine B_iinc (x := 12) (y := 13) 0 rfl (by decide) (by decide) rfl dX12_init_262 ?_
  refine B_goto (tgt := 249) dX12_init_265 (by decide) ?_
  refine B_iload (x := 13) 0 rfl rfl dX12_init_249 ?_
  refine B_bipush (v := 15) (by decide) dX12_init_250 ?_
  refine B_ge (tgt := 268) dX12_init_252 (by decide) (fun q => absurd q (by decide)) (fun _ => ?_)
  refine B_aload 1 rfl rfl dX12_init_255 ?_
  refine B_get (f := 7) ci_X12 (by decide) (gm_4 89 rfl rfl) rfl rfl dX12_init_256 ?_
  refine B_iload (x := 13) 0 rfl rfl dX12_init_259 ?_
  refine B_iconst (v := 1) (by decide) dX12_init_260 ?_
  refine B_iast (a := q7) (n := 15) (f := onesF 13) 7 rfl (by decide) (vp_in_iff.mpr (by decide)) dX12_init_261 ?_
  rw [show upd (onesF 13) (13 : Int32).toNatClampNeg 1 = onesF 14 from ones_up (i := 13) (by decide)]
  show BB l D Y mX12_init 262 _ _ [0, 0, 0, 0, 0, 0, 0, 0, 0, 0, 0, 0, 0, 0, 0, 0, 0, 0, 0, 0, 1, 0, 0, 0, 0, 0, 0, 0, 0] [(h0, .inr (10, [.int 0, .ref q1, .ref q2, .ref q3, .ref q4, .ref q5, .ref q6, .ref q7, .int 0, .ref q8, .int 0, .int 0, .long 0, .int 0, .int 0, .int 0, .int 0, .ref q9, .ref q10, .ref q11, .int 0, .ref q12, .ref q13, .ref q14, .ref q15, .ref q16, .ref q17, .ref q18, .ref q19, .ref q20, .ref q21, .ref q22, .ref q23, .ref q24, .ref q25, .ref q26, .ref q27, .ref q28, .int 0, .int 0, .ref q29])), (q1, zA Y 0 8), (q2, zA Y 0 8), (q3, zA Y 0 8), (q4, zA Y 0 8), (q5, zA Y 0 8), (q6, zA Y 0 8), (q7, prA Y 14), (q8, zA Y 0 160), (q9, zA Y 0 24), (q10, zA Y 0 24), (q11, zA Y 0 26), (q12, zA Y 0 8), (q13, zA Y 0 192), (q14, zA Y 0 192), (q15, zA Y 0 256), (q16, zA Y 0 256), (q17, zA Y 0 256), (q18, zA Y 0 256), (q19, zA Y 0 256), (q20, zA Y 0 256), (q21, zA Y 1 256), (q22, zA Y 0 8), (q23, zA Y 0 8), (q24, zA Y 0 8), (q25, zA Y 0 8), (q26, zA Y 0 8), (q27, zA Y 0 8), (q28, zA Y 0 256), (q29, zA Y 0 12)] 29 2797 _
  refine B_iinc (x := 13) (y := 14) 0 rfl (by decide) (by decide) rfl dX12_init_262 ?_
  refine B_goto (tgt := 249) dX12_init_265 (by decide) ?_
  refine B_iload (x := 14) 0 rfl rfl dX12_init_249 ?_
  refine B_bipush (v := 15) (by decide) dX12_init_250 ?_
  refine B_ge (tgt := 268) dX12_init_252 (by decide) (fun q => absurd q (by decide)) (fun _ => ?_)
  refine B_aload 1 rfl rfl dX12_init_255 ?_
  refine B_get (f := 7) ci_X12 (by decide) (gm_4 89 rfl rfl) rfl rfl dX12_init_256 ?_
  refine B_iload (x := 14) 0 rfl rfl dX12_init_259 ?_
  refine B_iconst (v := 1) (by decide) dX12_init_260 ?_
  refine B_iast (a := q7) (n := 15) (f := onesF 14) 7 rfl (by decide) (vp_in_iff.mpr (by decide)) dX12_init_261 ?_
  rw [show upd (onesF 14) (14 : Int32).toNatClampNeg 1 = onesF 15 from ones_up (i := 14) (by decide)]
  show BB l D Y mX12_init 262 _ _ [0, 0, 0, 0, 0, 0, 0, 0, 0, 0, 0, 0, 0, 0, 0, 0, 0, 0, 0, 0, 1, 0, 0, 0, 0, 0, 0, 0, 0] [(h0, .inr (10, [.int 0, .ref q1, .ref q2, .ref q3, .ref q4, .ref q5, .ref q6, .ref q7, .int 0, .ref q8, .int 0, .int 0, .long 0, .int 0, .int 0, .int 0, .int 0, .ref q9, .ref q10, .ref q11, .int 0, .ref q12, .ref q13, .ref q14, .ref q15, .ref q16, .ref q17, .ref q18, .ref q19, .ref q20, .ref q21, .ref q22, .ref q23, .ref q24, .ref q25, .ref q26, .ref q27, .ref q28, .int 0, .int 0, .ref q29])), (q1, zA Y 0 8), (q2, zA Y 0 8), (q3, zA Y 0 8), (q4, zA Y 0 8), (q5, zA Y 0 8), (q6, zA Y 0 8), (q7, prA Y 15), (q8, zA Y 0 160), (q9, zA Y 0 24), (q10, zA Y 0 24), (q11, zA Y 0 26), (q12, zA Y 0 8), (q13, zA Y 0 192), (q14, zA Y 0 192), (q15, zA Y 0 256), (q16, zA Y 0 256), (q17, zA Y 0 256), (q18, zA Y 0 256), (q19, zA Y 0 256), (q20, zA Y 0 256), (q21, zA Y 1 256), (q22, zA Y 0 8), (q23, zA Y 0 8), (q24, zA Y 0 8), (q25, zA Y 0 8), (q26, zA Y 0 8), (q27, zA Y 0 8), (q28, zA Y 0 256), (q29, zA Y 0 12)] 29 2797 _
  refine B_iinc (x := 14) (y := 15) 0 rfl (by decide) (by decide) rfl dX12_init_262 ?_
  refine B_goto (tgt := 249) dX12_init_265 (by decide) ?_
  refine B_iload (x := 15) 0 rfl rfl dX12_init_249 ?_
  refine B_bipush (v := 15) (by decide) dX12_init_250 ?_
  refine B_ge (tgt := 268) dX12_init_252 (by decide) (fun _ => ?_) (fun q => absurd (by decide) q)
  exact B_ret ⟨by decide, fun i => [0, q1, q2, q3, q4, q5, q6, q7, q8, q9, q10, q11, q12, q13, q14, q15, q16, q17, q18, q19, q20, q21, q22, q23, q24, q25, q26, q27, q28, q29].getD i 0, rfl⟩ (Nat.le_of_ble_eq_true rfl) (Nat.le_of_ble_eq_true rfl) dX12_init_268
