/-! printed by program: J7_fill_53178 J6_bitCount_0f7a4 J6_numberOfTrailingZeros_0f7a4 -/
def GJ7_fill_53178_0 (X : Cx) (c0 : Nat) (v1 : Int) (σ : Sg) (Q : Int → Sg → Prop) : Prop := VV X mJ7_fill_53178 0 [(0, .ref (cxA X c0)), (1, .int (gI v1))] [] σ Q
def GJ7_fill_53178_5 (X : Cx) (c0 : Nat) (v1 : Int) (v2 : Int) (v3 : Int) (σ : Sg) (Q : Int → Sg → Prop) : Prop := VV X mJ7_fill_53178 5 [(0, .ref (cxA X c0)), (1, .int (gI v1)), (2, .int (gI v2)), (3, .int (gI v3))] [] σ Q
set_option maxHeartbeats 2000000 in
set_option maxRecDepth 20000 in
theorem rJ7_fill_53178_0 {X : Cx} {c0 : Nat} {nc0 : Nat} {v1 : Int} (hc0 : shp c0 = (20, nc0)) (hnc0 : nc0 < 2147483648) {σ : Sg} {Q : Int → Sg → Prop} (h : Rng σ → GJ7_fill_53178_5 X c0 v1 0 ((nc0 : Int)) σ Q) : GJ7_fill_53178_0 X c0 v1 σ Q := by
  unfold GJ7_fill_53178_0
  refine V_rng (fun hR0 => ?_)
  have h := h hR0
  refine V_iconst dJ7_fill_53178_0 ?_
  refine V_istore_n (L' := [(2, .int (gI 0)), (0, .ref (cxA X c0)), (1, .int (gI v1))]) rfl (by decide) rfl dJ7_fill_53178_1 ?_
  refine V_aload_n 1 rfl rfl dJ7_fill_53178_2 ?_
  refine V_alen hc0 (by decide) (by decide) dJ7_fill_53178_3 ?_
  refine V_istore_n (L' := [(3, .int (gI ((nc0 : Int)))), (2, .int (gI 0)), (0, .ref (cxA X c0)), (1, .int (gI v1))]) rfl (by decide) rfl dJ7_fill_53178_4 ?_
  exact V_sub [2, 3, 1, 0] rfl h
set_option maxHeartbeats 2000000 in
set_option maxRecDepth 20000 in
theorem rJ7_fill_53178_5 {X : Cx} {c0 : Nat} {nc0 : Nat} {v1 : Int} {v2 : Int} {v3 : Int} (hc0 : shp c0 = (20, nc0)) (hnc0 : nc0 < 2147483648) {σ : Sg} {Q : Int → Sg → Prop} (h : Rng σ → (inI v2) ∧ (inI v3) ∧ ((v3 ≤ v2 → Q 0 σ) ∧ (v2 < v3 → (0 ≤ v2 ∧ v2 < nc0) ∧ (inI v1) ∧ GJ7_fill_53178_5 X c0 v1 (v2 + 1) v3 (up2 σ c0 v2.toNat v1) Q))) : GJ7_fill_53178_5 X c0 v1 v2 v3 σ Q := by
  unfold GJ7_fill_53178_5
  refine V_rng (fun hR0 => ?_)
  have h := h hR0
  refine V_iload_n 2 rfl rfl dJ7_fill_53178_5 ?_
  refine V_iload_n 3 rfl rfl dJ7_fill_53178_6 ?_
  obtain ⟨g1, h⟩ := h
  obtain ⟨g2, h⟩ := h
  refine V_icmp_ge (tgt := 20) dJ7_fill_53178_7 (by decide) g1 g2 (fun q3 => ?_) (fun q3 => ?_)
  · have h := h.1 q3
    exact V_vret rfl dJ7_fill_53178_20 h
  · have h := h.2 q3
    refine V_aload_n 0 rfl rfl dJ7_fill_53178_10 ?_
    refine V_iload_n 2 rfl rfl dJ7_fill_53178_11 ?_
    refine V_iload_n 1 rfl rfl dJ7_fill_53178_12 ?_
    obtain ⟨g4, h⟩ := h
    obtain ⟨g5, h⟩ := h
    refine V_iast hc0 hnc0 g4 g5 dJ7_fill_53178_13 ?_
    refine V_iinc (L' := [(2, .int (gI (v2 + 1))), (0, .ref (cxA X c0)), (1, .int (gI v1)), (3, .int (gI v3))]) 2 rfl (by decide) rfl dJ7_fill_53178_14 ?_
    refine V_goto (tgt := 5) dJ7_fill_53178_17 (by decide) ?_
    exact V_sub [1, 2, 0, 3] rfl h
theorem eJ7_fill_53178 {X : Cx} {c0 : Nat} {v1 : Int} {σ : Sg} {Q : Int → Sg → Prop} (h : GJ7_fill_53178_0 X c0 v1 σ Q) : KJ7_fill_53178 X c0 v1 σ Q := V_enter (by decide) (Nat.le_of_ble_eq_true rfl) rfl h
def GJ6_bitCount_0f7a4_0 (X : Cx) (v0 : Int) (σ : Sg) (Q : Int → Sg → Prop) : Prop := VV X mJ6_bitCount_0f7a4 0 [(0, .int (gI v0))] [] σ Q
set_option maxHeartbeats 2000000 in
set_option maxRecDepth 20000 in
theorem rJ6_bitCount_0f7a4_0 {X : Cx} {v0 : Int} {σ : Sg} {Q : Int → Sg → Prop} (h : Rng σ → Q (zand (((zand (((zand (v0 - (zand (zushr v0 1) 1431655765)) 858993459) + (zand (zushr (v0 - (zand (zushr v0 1) 1431655765)) 2) 858993459)) + (zushr ((zand (v0 - (zand (zushr v0 1) 1431655765)) 858993459) + (zand (zushr (v0 - (zand (zushr v0 1) 1431655765)) 2) 858993459)) 4)) 252645135) + (zushr (zand (((zand (v0 - (zand (zushr v0 1) 1431655765)) 858993459) + (zand (zushr (v0 - (zand (zushr v0 1) 1431655765)) 2) 858993459)) + (zushr ((zand (v0 - (zand (zushr v0 1) 1431655765)) 858993459) + (zand (zushr (v0 - (zand (zushr v0 1) 1431655765)) 2) 858993459)) 4)) 252645135) 8)) + (zushr ((zand (((zand (v0 - (zand (zushr v0 1) 1431655765)) 858993459) + (zand (zushr (v0 - (zand (zushr v0 1) 1431655765)) 2) 858993459)) + (zushr ((zand (v0 - (zand (zushr v0 1) 1431655765)) 858993459) + (zand (zushr (v0 - (zand (zushr v0 1) 1431655765)) 2) 858993459)) 4)) 252645135) + (zushr (zand (((zand (v0 - (zand (zushr v0 1) 1431655765)) 858993459) + (zand (zushr (v0 - (zand (zushr v0 1) 1431655765)) 2) 858993459)) + (zushr ((zand (v0 - (zand (zushr v0 1) 1431655765)) 858993459) + (zand (zushr (v0 - (zand (zushr v0 1) 1431655765)) 2) 858993459)) 4)) 252645135) 8)) 16)) 63) σ) : GJ6_bitCount_0f7a4_0 X v0 σ Q := by
  unfold GJ6_bitCount_0f7a4_0
  refine V_rng (fun hR0 => ?_)
  have h := h hR0
  refine V_iload_n 0 rfl rfl dJ6_bitCount_0f7a4_0 ?_
  refine V_iload_n 0 rfl rfl dJ6_bitCount_0f7a4_1 ?_
  refine V_iconst dJ6_bitCount_0f7a4_2 ?_
  refine V_iushr dJ6_bitCount_0f7a4_3 ?_
  refine V_ldc_w (x := 1431655765) dJ6_bitCount_0f7a4_4 lk_RJ6_c265 (by decide) ?_
  refine V_iand dJ6_bitCount_0f7a4_7 ?_
  refine V_isub dJ6_bitCount_0f7a4_8 ?_
  refine V_istore_n (L' := [(0, .int (gI (v0 - (zand (zushr v0 1) 1431655765))))]) rfl (by decide) rfl dJ6_bitCount_0f7a4_9 ?_
  refine V_iload_n 0 rfl rfl dJ6_bitCount_0f7a4_10 ?_
  refine V_ldc_w (x := 858993459) dJ6_bitCount_0f7a4_11 lk_RJ6_c266 (by decide) ?_
  refine V_iand dJ6_bitCount_0f7a4_14 ?_
  refine V_iload_n 0 rfl rfl dJ6_bitCount_0f7a4_15 ?_
  refine V_iconst dJ6_bitCount_0f7a4_16 ?_
  refine V_iushr dJ6_bitCount_0f7a4_17 ?_
  refine V_ldc_w (x := 858993459) dJ6_bitCount_0f7a4_18 lk_RJ6_c266 (by decide) ?_
  refine V_iand dJ6_bitCount_0f7a4_21 ?_
  refine V_iadd dJ6_bitCount_0f7a4_22 ?_
  refine V_istore_n (L' := [(0, .int (gI ((zand (v0 - (zand (zushr v0 1) 1431655765)) 858993459) + (zand (zushr (v0 - (zand (zushr v0 1) 1431655765)) 2) 858993459))))]) rfl (by decide) rfl dJ6_bitCount_0f7a4_23 ?_
  refine V_iload_n 0 rfl rfl dJ6_bitCount_0f7a4_24 ?_
  refine V_iload_n 0 rfl rfl dJ6_bitCount_0f7a4_25 ?_
  refine V_iconst dJ6_bitCount_0f7a4_26 ?_
  refine V_iushr dJ6_bitCount_0f7a4_27 ?_
  refine V_iadd dJ6_bitCount_0f7a4_28 ?_
  refine V_ldc_w (x := 252645135) dJ6_bitCount_0f7a4_29 lk_RJ6_c267 (by decide) ?_
  refine V_iand dJ6_bitCount_0f7a4_32 ?_
  refine V_istore_n (L' := [(0, .int (gI (zand (((zand (v0 - (zand (zushr v0 1) 1431655765)) 858993459) + (zand (zushr (v0 - (zand (zushr v0 1) 1431655765)) 2) 858993459)) + (zushr ((zand (v0 - (zand (zushr v0 1) 1431655765)) 858993459) + (zand (zushr (v0 - (zand (zushr v0 1) 1431655765)) 2) 858993459)) 4)) 252645135)))]) rfl (by decide) rfl dJ6_bitCount_0f7a4_33 ?_
  refine V_iload_n 0 rfl rfl dJ6_bitCount_0f7a4_34 ?_
  refine V_iload_n 0 rfl rfl dJ6_bitCount_0f7a4_35 ?_
  refine V_bipush (v := 8) (by decide) dJ6_bitCount_0f7a4_36 ?_
  refine V_iushr dJ6_bitCount_0f7a4_38 ?_
  refine V_iadd dJ6_bitCount_0f7a4_39 ?_
  refine V_istore_n (L' := [(0, .int (gI ((zand (((zand (v0 - (zand (zushr v0 1) 1431655765)) 858993459) + (zand (zushr (v0 - (zand (zushr v0 1) 1431655765)) 2) 858993459)) + (zushr ((zand (v0 - (zand (zushr v0 1) 1431655765)) 858993459) + (zand (zushr (v0 - (zand (zushr v0 1) 1431655765)) 2) 858993459)) 4)) 252645135) + (zushr (zand (((zand (v0 - (zand (zushr v0 1) 1431655765)) 858993459) + (zand (zushr (v0 - (zand (zushr v0 1) 1431655765)) 2) 858993459)) + (zushr ((zand (v0 - (zand (zushr v0 1) 1431655765)) 858993459) + (zand (zushr (v0 - (zand (zushr v0 1) 1431655765)) 2) 858993459)) 4)) 252645135) 8))))]) rfl (by decide) rfl dJ6_bitCount_0f7a4_40 ?_
  refine V_iload_n 0 rfl rfl dJ6_bitCount_0f7a4_41 ?_
  refine V_iload_n 0 rfl rfl dJ6_bitCount_0f7a4_42 ?_
  refine V_bipush (v := 16) (by decide) dJ6_bitCount_0f7a4_43 ?_
  refine V_iushr dJ6_bitCount_0f7a4_45 ?_
  refine V_iadd dJ6_bitCount_0f7a4_46 ?_
  refine V_istore_n (L' := [(0, .int (gI (((zand (((zand (v0 - (zand (zushr v0 1) 1431655765)) 858993459) + (zand (zushr (v0 - (zand (zushr v0 1) 1431655765)) 2) 858993459)) + (zushr ((zand (v0 - (zand (zushr v0 1) 1431655765)) 858993459) + (zand (zushr (v0 - (zand (zushr v0 1) 1431655765)) 2) 858993459)) 4)) 252645135) + (zushr (zand (((zand (v0 - (zand (zushr v0 1) 1431655765)) 858993459) + (zand (zushr (v0 - (zand (zushr v0 1) 1431655765)) 2) 858993459)) + (zushr ((zand (v0 - (zand (zushr v0 1) 1431655765)) 858993459) + (zand (zushr (v0 - (zand (zushr v0 1) 1431655765)) 2) 858993459)) 4)) 252645135) 8)) + (zushr ((zand (((zand (v0 - (zand (zushr v0 1) 1431655765)) 858993459) + (zand (zushr (v0 - (zand (zushr v0 1) 1431655765)) 2) 858993459)) + (zushr ((zand (v0 - (zand (zushr v0 1) 1431655765)) 858993459) + (zand (zushr (v0 - (zand (zushr v0 1) 1431655765)) 2) 858993459)) 4)) 252645135) + (zushr (zand (((zand (v0 - (zand (zushr v0 1) 1431655765)) 858993459) + (zand (zushr (v0 - (zand (zushr v0 1) 1431655765)) 2) 858993459)) + (zushr ((zand (v0 - (zand (zushr v0 1) 1431655765)) 858993459) + (zand (zushr (v0 - (zand (zushr v0 1) 1431655765)) 2) 858993459)) 4)) 252645135) 8)) 16))))]) rfl (by decide) rfl dJ6_bitCount_0f7a4_47 ?_
  refine V_iload_n 0 rfl rfl dJ6_bitCount_0f7a4_48 ?_
  refine V_bipush (v := 63) (by decide) dJ6_bitCount_0f7a4_49 ?_
  refine V_iand dJ6_bitCount_0f7a4_51 ?_
  exact V_iret rfl (fun _ q => by cases q) (vp_nar_int _) dJ6_bitCount_0f7a4_52 h
theorem eJ6_bitCount_0f7a4 {X : Cx} {v0 : Int} {σ : Sg} {Q : Int → Sg → Prop} (h : GJ6_bitCount_0f7a4_0 X v0 σ Q) : KJ6_bitCount_0f7a4 X v0 σ Q := V_enter (by decide) (Nat.le_of_ble_eq_true rfl) rfl h
def GJ6_numberOfTrailingZeros_0f7a4_0 (X : Cx) (v0 : Int) (σ : Sg) (Q : Int → Sg → Prop) : Prop := VV X mJ6_numberOfTrailingZeros_0f7a4 0 [(0, .int (gI v0))] [] σ Q
def GJ6_numberOfTrailingZeros_0f7a4_34 (X : Cx) (v0 : Int) (v1 : Int) (σ : Sg) (Q : Int → Sg → Prop) : Prop := VV X mJ6_numberOfTrailingZeros_0f7a4 34 [(0, .int (gI v0)), (1, .int (gI v1))] [] σ Q
def GJ6_numberOfTrailingZeros_0f7a4_49 (X : Cx) (v0 : Int) (v1 : Int) (σ : Sg) (Q : Int → Sg → Prop) : Prop := VV X mJ6_numberOfTrailingZeros_0f7a4 49 [(0, .int (gI v0)), (1, .int (gI v1))] [] σ Q
def GJ6_numberOfTrailingZeros_0f7a4_62 (X : Cx) (v0 : Int) (v1 : Int) (σ : Sg) (Q : Int → Sg → Prop) : Prop := VV X mJ6_numberOfTrailingZeros_0f7a4 62 [(0, .int (gI v0)), (1, .int (gI v1))] [] σ Q
set_option maxHeartbeats 2000000 in
set_option maxRecDepth 20000 in
theorem rJ6_numberOfTrailingZeros_0f7a4_0 {X : Cx} {v0 : Int} {σ : Sg} {Q : Int → Sg → Prop} (h : Rng σ → ((0 < (zand (zxor v0 ((-1))) (v0 - 1)) → (((zand (zxor v0 ((-1))) (v0 - 1)) ≤ 65536 → GJ6_numberOfTrailingZeros_0f7a4_34 X (zand (zxor v0 ((-1))) (v0 - 1)) 1 σ Q) ∧ (65536 < (zand (zxor v0 ((-1))) (v0 - 1)) → GJ6_numberOfTrailingZeros_0f7a4_34 X (zushr (zand (zxor v0 ((-1))) (v0 - 1)) 16) (1 + 16) σ Q))) ∧ ((zand (zxor v0 ((-1))) (v0 - 1)) ≤ 0 → Q (zand (zand (zxor v0 ((-1))) (v0 - 1)) 32) σ))) : GJ6_numberOfTrailingZeros_0f7a4_0 X v0 σ Q := by
  unfold GJ6_numberOfTrailingZeros_0f7a4_0
  refine V_rng (fun hR0 => ?_)
  have h := h hR0
  refine V_iload_n 0 rfl rfl dJ6_numberOfTrailingZeros_0f7a4_0 ?_
  refine V_iconst dJ6_numberOfTrailingZeros_0f7a4_1 ?_
  refine V_ixor dJ6_numberOfTrailingZeros_0f7a4_2 ?_
  refine V_iload_n 0 rfl rfl dJ6_numberOfTrailingZeros_0f7a4_3 ?_
  refine V_iconst dJ6_numberOfTrailingZeros_0f7a4_4 ?_
  refine V_isub dJ6_numberOfTrailingZeros_0f7a4_5 ?_
  refine V_iand dJ6_numberOfTrailingZeros_0f7a4_6 ?_
  refine V_istore_n (L' := [(0, .int (gI (zand (zxor v0 ((-1))) (v0 - 1))))]) rfl (by decide) rfl dJ6_numberOfTrailingZeros_0f7a4_7 ?_
  refine V_iload_n 0 rfl rfl dJ6_numberOfTrailingZeros_0f7a4_8 ?_
  refine V_if_gt (tgt := 17) dJ6_numberOfTrailingZeros_0f7a4_9 (by decide) (inI_z _) (fun q1 => ?_) (fun q1 => ?_)
  · have h := h.1 q1
    refine V_iconst dJ6_numberOfTrailingZeros_0f7a4_17 ?_
    refine V_istore_n (L' := [(1, .int (gI 1)), (0, .int (gI (zand (zxor v0 ((-1))) (v0 - 1))))]) rfl (by decide) rfl dJ6_numberOfTrailingZeros_0f7a4_18 ?_
    refine V_iload_n 1 rfl rfl dJ6_numberOfTrailingZeros_0f7a4_19 ?_
    refine V_ldc_w (x := 65536) dJ6_numberOfTrailingZeros_0f7a4_20 lk_RJ6_c264 (by decide) ?_
    refine V_icmp_le (tgt := 34) dJ6_numberOfTrailingZeros_0f7a4_23 (by decide) (inI_z _) (by decide) (fun q2 => ?_) (fun q2 => ?_)
    · have h := h.1 q2
      exact V_sub [1, 0] rfl h
    · have h := h.2 q2
      refine V_iinc (L' := [(1, .int (gI (1 + 16))), (0, .int (gI (zand (zxor v0 ((-1))) (v0 - 1))))]) 0 rfl (by decide) rfl dJ6_numberOfTrailingZeros_0f7a4_26 ?_
      refine V_iload_n 1 rfl rfl dJ6_numberOfTrailingZeros_0f7a4_29 ?_
      refine V_bipush (v := 16) (by decide) dJ6_numberOfTrailingZeros_0f7a4_30 ?_
      refine V_iushr dJ6_numberOfTrailingZeros_0f7a4_32 ?_
      refine V_istore_n (L' := [(0, .int (gI (zushr (zand (zxor v0 ((-1))) (v0 - 1)) 16))), (1, .int (gI (1 + 16)))]) rfl (by decide) rfl dJ6_numberOfTrailingZeros_0f7a4_33 ?_
      exact h
  · have h := h.2 q1
    refine V_iload_n 0 rfl rfl dJ6_numberOfTrailingZeros_0f7a4_12 ?_
    refine V_bipush (v := 32) (by decide) dJ6_numberOfTrailingZeros_0f7a4_13 ?_
    refine V_iand dJ6_numberOfTrailingZeros_0f7a4_15 ?_
    exact V_iret rfl (fun _ q => by cases q) (vp_nar_int _) dJ6_numberOfTrailingZeros_0f7a4_16 h
set_option maxHeartbeats 2000000 in
set_option maxRecDepth 20000 in
theorem rJ6_numberOfTrailingZeros_0f7a4_34 {X : Cx} {v0 : Int} {v1 : Int} {σ : Sg} {Q : Int → Sg → Prop} (h : Rng σ → (inI v0) ∧ ((v0 ≤ 256 → GJ6_numberOfTrailingZeros_0f7a4_49 X v0 v1 σ Q) ∧ (256 < v0 → GJ6_numberOfTrailingZeros_0f7a4_49 X (zushr v0 8) (v1 + 8) σ Q))) : GJ6_numberOfTrailingZeros_0f7a4_34 X v0 v1 σ Q := by
  unfold GJ6_numberOfTrailingZeros_0f7a4_34
  refine V_rng (fun hR0 => ?_)
  have h := h hR0
  refine V_iload_n 0 rfl rfl dJ6_numberOfTrailingZeros_0f7a4_34 ?_
  refine V_sipush (v := 256) (by decide) dJ6_numberOfTrailingZeros_0f7a4_35 ?_
  obtain ⟨g1, h⟩ := h
  refine V_icmp_le (tgt := 49) dJ6_numberOfTrailingZeros_0f7a4_38 (by decide) g1 (by decide) (fun q2 => ?_) (fun q2 => ?_)
  · have h := h.1 q2
    exact h
  · have h := h.2 q2
    refine V_iinc (L' := [(1, .int (gI (v1 + 8))), (0, .int (gI v0))]) 1 rfl (by decide) rfl dJ6_numberOfTrailingZeros_0f7a4_41 ?_
    refine V_iload_n 1 rfl rfl dJ6_numberOfTrailingZeros_0f7a4_44 ?_
    refine V_bipush (v := 8) (by decide) dJ6_numberOfTrailingZeros_0f7a4_45 ?_
    refine V_iushr dJ6_numberOfTrailingZeros_0f7a4_47 ?_
    refine V_istore_n (L' := [(0, .int (gI (zushr v0 8))), (1, .int (gI (v1 + 8)))]) rfl (by decide) rfl dJ6_numberOfTrailingZeros_0f7a4_48 ?_
    exact h
set_option maxHeartbeats 2000000 in
set_option maxRecDepth 20000 in
theorem rJ6_numberOfTrailingZeros_0f7a4_49 {X : Cx} {v0 : Int} {v1 : Int} {σ : Sg} {Q : Int → Sg → Prop} (h : Rng σ → (inI v0) ∧ ((v0 ≤ 16 → GJ6_numberOfTrailingZeros_0f7a4_62 X v0 v1 σ Q) ∧ (16 < v0 → GJ6_numberOfTrailingZeros_0f7a4_62 X (zushr v0 4) (v1 + 4) σ Q))) : GJ6_numberOfTrailingZeros_0f7a4_49 X v0 v1 σ Q := by
  unfold GJ6_numberOfTrailingZeros_0f7a4_49
  refine V_rng (fun hR0 => ?_)
  have h := h hR0
  refine V_iload_n 0 rfl rfl dJ6_numberOfTrailingZeros_0f7a4_49 ?_
  refine V_bipush (v := 16) (by decide) dJ6_numberOfTrailingZeros_0f7a4_50 ?_
  obtain ⟨g1, h⟩ := h
  refine V_icmp_le (tgt := 62) dJ6_numberOfTrailingZeros_0f7a4_52 (by decide) g1 (by decide) (fun q2 => ?_) (fun q2 => ?_)
  · have h := h.1 q2
    exact h
  · have h := h.2 q2
    refine V_iinc (L' := [(1, .int (gI (v1 + 4))), (0, .int (gI v0))]) 1 rfl (by decide) rfl dJ6_numberOfTrailingZeros_0f7a4_55 ?_
    refine V_iload_n 1 rfl rfl dJ6_numberOfTrailingZeros_0f7a4_58 ?_
    refine V_iconst dJ6_numberOfTrailingZeros_0f7a4_59 ?_
    refine V_iushr dJ6_numberOfTrailingZeros_0f7a4_60 ?_
    refine V_istore_n (L' := [(0, .int (gI (zushr v0 4))), (1, .int (gI (v1 + 4)))]) rfl (by decide) rfl dJ6_numberOfTrailingZeros_0f7a4_61 ?_
    exact h
set_option maxHeartbeats 2000000 in
set_option maxRecDepth 20000 in
theorem rJ6_numberOfTrailingZeros_0f7a4_62 {X : Cx} {v0 : Int} {v1 : Int} {σ : Sg} {Q : Int → Sg → Prop} (h : Rng σ → (inI v0) ∧ ((v0 ≤ 4 → Q (v1 + (zushr v0 1)) σ) ∧ (4 < v0 → Q ((v1 + 2) + (zushr (zushr v0 2) 1)) σ))) : GJ6_numberOfTrailingZeros_0f7a4_62 X v0 v1 σ Q := by
  unfold GJ6_numberOfTrailingZeros_0f7a4_62
  refine V_rng (fun hR0 => ?_)
  have h := h hR0
  refine V_iload_n 0 rfl rfl dJ6_numberOfTrailingZeros_0f7a4_62 ?_
  refine V_iconst dJ6_numberOfTrailingZeros_0f7a4_63 ?_
  obtain ⟨g1, h⟩ := h
  refine V_icmp_le (tgt := 74) dJ6_numberOfTrailingZeros_0f7a4_64 (by decide) g1 (by decide) (fun q2 => ?_) (fun q2 => ?_)
  · have h := h.1 q2
    refine V_iload_n 1 rfl rfl dJ6_numberOfTrailingZeros_0f7a4_74 ?_
    refine V_iload_n 0 rfl rfl dJ6_numberOfTrailingZeros_0f7a4_75 ?_
    refine V_iconst dJ6_numberOfTrailingZeros_0f7a4_76 ?_
    refine V_iushr dJ6_numberOfTrailingZeros_0f7a4_77 ?_
    refine V_iadd dJ6_numberOfTrailingZeros_0f7a4_78 ?_
    exact V_iret rfl (fun _ q => by cases q) (vp_nar_int _) dJ6_numberOfTrailingZeros_0f7a4_79 h
  · have h := h.2 q2
    refine V_iinc (L' := [(1, .int (gI (v1 + 2))), (0, .int (gI v0))]) 1 rfl (by decide) rfl dJ6_numberOfTrailingZeros_0f7a4_67 ?_
    refine V_iload_n 1 rfl rfl dJ6_numberOfTrailingZeros_0f7a4_70 ?_
    refine V_iconst dJ6_numberOfTrailingZeros_0f7a4_71 ?_
    refine V_iushr dJ6_numberOfTrailingZeros_0f7a4_72 ?_
    refine V_istore_n (L' := [(0, .int (gI (zushr v0 2))), (1, .int (gI (v1 + 2)))]) rfl (by decide) rfl dJ6_numberOfTrailingZeros_0f7a4_73 ?_
    refine V_iload_n 1 rfl rfl dJ6_numberOfTrailingZeros_0f7a4_74 ?_
    refine V_iload_n 0 rfl rfl dJ6_numberOfTrailingZeros_0f7a4_75 ?_
    refine V_iconst dJ6_numberOfTrailingZeros_0f7a4_76 ?_
    refine V_iushr dJ6_numberOfTrailingZeros_0f7a4_77 ?_
    refine V_iadd dJ6_numberOfTrailingZeros_0f7a4_78 ?_
    exact V_iret rfl (fun _ q => by cases q) (vp_nar_int _) dJ6_numberOfTrailingZeros_0f7a4_79 h
theorem eJ6_numberOfTrailingZeros_0f7a4 {X : Cx} {v0 : Int} {σ : Sg} {Q : Int → Sg → Prop} (h : GJ6_numberOfTrailingZeros_0f7a4_0 X v0 σ Q) : KJ6_numberOfTrailingZeros_0f7a4 X v0 σ Q := V_enter (by decide) (Nat.le_of_ble_eq_true rfl) rfl h
