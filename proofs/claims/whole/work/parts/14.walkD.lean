/-! printed by program: X12_in X12_isThing X12_bits X12_every X12_thing X12_paint X12_tieMany X12_tie X12_besides X12_of X12_price X12_write X12_erase X12_nextToken X12_fails X12_wordTold X12_needs X12_isRead X12_fault X12_allOf X12_bySize X12_leftmost X12_made X12_meaning X12_costTold X12_says X12_keep X12_recall -/
def GX12_in_0 (X : Cx) (v0 : Int) (v1 : Int) (v2 : Int) (σ : Sg) (Q : Int → Sg → Prop) : Prop := VV X mX12_in 0 [(0, .int (gI v0)), (1, .int (gI v1)), (2, .int (gI v2))] [] σ Q
set_option maxHeartbeats 2000000 in
set_option maxRecDepth 20000 in
theorem rX12_in_0 {X : Cx} {v0 : Int} {v1 : Int} {v2 : Int} {σ : Sg} {Q : Int → Sg → Prop} (h : Rng σ → (inI v0) ∧ (inI v1) ∧ ((v0 < v1 → Q 0 σ) ∧ (v1 ≤ v0 → (inI v0) ∧ (inI v2) ∧ ((v2 < v0 → Q 0 σ) ∧ (v0 ≤ v2 → Q 1 σ))))) : GX12_in_0 X v0 v1 v2 σ Q := by
  unfold GX12_in_0
  refine V_rng (fun hR0 => ?_)
  have h := h hR0
  refine V_iload_n 0 rfl rfl dX12_in_0 ?_
  refine V_iload_n 1 rfl rfl dX12_in_1 ?_
  obtain ⟨g1, h⟩ := h
  obtain ⟨g2, h⟩ := h
  refine V_icmp_lt (tgt := 14) dX12_in_2 (by decide) g1 g2 (fun q3 => ?_) (fun q3 => ?_)
  · have h := h.1 q3
    refine V_iconst dX12_in_14 ?_
    exact V_iret rfl (fun _ q => by cases q) (by decide) dX12_in_15 h
  · have h := h.2 q3
    refine V_iload_n 0 rfl rfl dX12_in_5 ?_
    refine V_iload_n 2 rfl rfl dX12_in_6 ?_
    obtain ⟨g4, h⟩ := h
    obtain ⟨g5, h⟩ := h
    refine V_icmp_gt (tgt := 14) dX12_in_7 (by decide) g4 g5 (fun q6 => ?_) (fun q6 => ?_)
    · have h := h.1 q6
      refine V_iconst dX12_in_14 ?_
      exact V_iret rfl (fun _ q => by cases q) (by decide) dX12_in_15 h
    · have h := h.2 q6
      refine V_iconst dX12_in_10 ?_
      refine V_goto (tgt := 15) dX12_in_11 (by decide) ?_
      exact V_iret rfl (fun _ q => by cases q) (by decide) dX12_in_15 h
theorem eX12_in {X : Cx} {v0 : Int} {v1 : Int} {v2 : Int} {σ : Sg} {Q : Int → Sg → Prop} (h : GX12_in_0 X v0 v1 v2 σ Q) : KX12_in X v0 v1 v2 σ Q := V_enter (by decide) (Nat.le_of_ble_eq_true rfl) rfl h
def GX12_isThing_0 (X : Cx) (v1 : Int) (σ : Sg) (Q : Int → Sg → Prop) : Prop := VV X mX12_isThing 0 [(0, .ref (cxA X 69)), (1, .int (gI v1))] [] σ Q
set_option maxHeartbeats 2000000 in
set_option maxRecDepth 20000 in
theorem rX12_isThing_0 {X : Cx} {v1 : Int} {σ : Sg} {Q : Int → Sg → Prop} (h : Rng σ → KX12_in X v1 0 ((σ 69 0) - 1) σ (fun r1 σ2 => Rng σ2 → (r1 = 0 ∨ r1 = 1) ∧ Q r1 σ2)) : GX12_isThing_0 X v1 σ Q := by
  unfold GX12_isThing_0
  refine V_rng (fun hR0 => ?_)
  have h := h hR0
  refine V_iload_n 1 rfl rfl dX12_isThing_0 ?_
  refine V_iconst dX12_isThing_1 ?_
  refine V_aload_n 0 rfl rfl dX12_isThing_2 ?_
  refine V_getI (f := 0) ci_X12 sh_69 rfl (by decide) dX12_isThing_3 lk_RX12_f98 ?_
  refine V_iconst dX12_isThing_6 ?_
  refine V_isub dX12_isThing_7 ?_
  refine V_cS (M' := mX12_in) (As := [.int (gI v1), .int (gI 0), .int (gI ((σ 69 0) - 1))]) (fun r => [.int (gI r)]) ok_X12_in ok2_X12_in rfl rfl (Nat.le_of_ble_eq_true rfl) dX12_isThing_8 lk_RX12_m102 (by decide) (fun _ => rfl) h (fun r1 σ2 h => ?_)
  refine V_rng (fun hR3 => ?_)
  have h := h hR3
  obtain ⟨g4, h⟩ := h
  exact V_iret rfl (fun _ q => by cases q) (nar_Z g4).1 dX12_isThing_11 h
theorem eX12_isThing {X : Cx} {v1 : Int} {σ : Sg} {Q : Int → Sg → Prop} (h : GX12_isThing_0 X v1 σ Q) : KX12_isThing X v1 σ Q := V_enter (by decide) (Nat.le_of_ble_eq_true rfl) rfl h
def GX12_bits_0 (X : Cx) (v0 : Int) (σ : Sg) (Q : Int → Sg → Prop) : Prop := VV X mX12_bits 0 [(0, .int (gI v0))] [] σ Q
def GX12_bits_4 (X : Cx) (v0 : Int) (v1 : Int) (v2 : Int) (σ : Sg) (Q : Int → Sg → Prop) : Prop := VV X mX12_bits 4 [(0, .int (gI v0)), (1, .int (gI v1)), (2, .int (gI v2))] [] σ Q
set_option maxHeartbeats 2000000 in
set_option maxRecDepth 20000 in
theorem rX12_bits_0 {X : Cx} {v0 : Int} {σ : Sg} {Q : Int → Sg → Prop} (h : Rng σ → GX12_bits_4 X v0 0 0 σ Q) : GX12_bits_0 X v0 σ Q := by
  unfold GX12_bits_0
  refine V_rng (fun hR0 => ?_)
  have h := h hR0
  refine V_iconst dX12_bits_0 ?_
  refine V_istore_n (L' := [(1, .int (gI 0)), (0, .int (gI v0))]) rfl (by decide) rfl dX12_bits_1 ?_
  refine V_iconst dX12_bits_2 ?_
  refine V_istore_n (L' := [(2, .int (gI 0)), (1, .int (gI 0)), (0, .int (gI v0))]) rfl (by decide) rfl dX12_bits_3 ?_
  exact V_sub [2, 1, 0] rfl h
set_option maxHeartbeats 2000000 in
set_option maxRecDepth 20000 in
theorem rX12_bits_4 {X : Cx} {v0 : Int} {v1 : Int} {v2 : Int} {σ : Sg} {Q : Int → Sg → Prop} (h : Rng σ → (inI v2) ∧ ((8 ≤ v2 → Q v1 σ) ∧ (v2 < 8 → GX12_bits_4 X v0 (v1 + (zand (zshr v0 v2) 1)) (v2 + 1) σ Q))) : GX12_bits_4 X v0 v1 v2 σ Q := by
  unfold GX12_bits_4
  refine V_rng (fun hR0 => ?_)
  have h := h hR0
  refine V_iload_n 2 rfl rfl dX12_bits_4 ?_
  refine V_bipush (v := 8) (by decide) dX12_bits_5 ?_
  obtain ⟨g1, h⟩ := h
  refine V_icmp_ge (tgt := 24) dX12_bits_7 (by decide) g1 (by decide) (fun q2 => ?_) (fun q2 => ?_)
  · have h := h.1 q2
    refine V_iload_n 1 rfl rfl dX12_bits_24 ?_
    exact V_iret rfl (fun _ q => by cases q) (vp_nar_int _) dX12_bits_25 h
  · have h := h.2 q2
    refine V_iload_n 1 rfl rfl dX12_bits_10 ?_
    refine V_iload_n 0 rfl rfl dX12_bits_11 ?_
    refine V_iload_n 2 rfl rfl dX12_bits_12 ?_
    refine V_ishr dX12_bits_13 ?_
    refine V_iconst dX12_bits_14 ?_
    refine V_iand dX12_bits_15 ?_
    refine V_iadd dX12_bits_16 ?_
    refine V_istore_n (L' := [(1, .int (gI (v1 + (zand (zshr v0 v2) 1)))), (0, .int (gI v0)), (2, .int (gI v2))]) rfl (by decide) rfl dX12_bits_17 ?_
    refine V_iinc (L' := [(2, .int (gI (v2 + 1))), (1, .int (gI (v1 + (zand (zshr v0 v2) 1)))), (0, .int (gI v0))]) 2 rfl (by decide) rfl dX12_bits_18 ?_
    refine V_goto (tgt := 4) dX12_bits_21 (by decide) ?_
    exact V_sub [2, 1, 0] rfl h
theorem eX12_bits {X : Cx} {v0 : Int} {σ : Sg} {Q : Int → Sg → Prop} (h : GX12_bits_0 X v0 σ Q) : KX12_bits X v0 σ Q := V_enter (by decide) (Nat.le_of_ble_eq_true rfl) rfl h
def GX12_every_0 (X : Cx) (σ : Sg) (Q : Int → Sg → Prop) : Prop := VV X mX12_every 0 [(0, .ref (cxA X 69))] [] σ Q
set_option maxHeartbeats 2000000 in
set_option maxRecDepth 20000 in
theorem rX12_every_0 {X : Cx} {σ : Sg} {Q : Int → Sg → Prop} (h : Rng σ → Q ((zshl 1 (σ 69 0)) - 1) σ) : GX12_every_0 X σ Q := by
  unfold GX12_every_0
  refine V_rng (fun hR0 => ?_)
  have h := h hR0
  refine V_iconst dX12_every_0 ?_
  refine V_aload_n 0 rfl rfl dX12_every_1 ?_
  refine V_getI (f := 0) ci_X12 sh_69 rfl (by decide) dX12_every_2 lk_RX12_f98 ?_
  refine V_ishl dX12_every_5 ?_
  refine V_iconst dX12_every_6 ?_
  refine V_isub dX12_every_7 ?_
  exact V_iret rfl (fun _ q => by cases q) (vp_nar_int _) dX12_every_8 h
theorem eX12_every {X : Cx} {σ : Sg} {Q : Int → Sg → Prop} (h : GX12_every_0 X σ Q) : KX12_every X σ Q := V_enter (by decide) (Nat.le_of_ble_eq_true rfl) rfl h
def GX12_thing_0 (X : Cx) (v1 : Int) (v2 : Int) (v3 : Int) (v4 : Int) (σ : Sg) (Q : Int → Sg → Prop) : Prop := VV X mX12_thing 0 [(0, .ref (cxA X 69)), (1, .int (gI v1)), (2, .int (gI v2)), (3, .int (gI v3)), (4, .int (gI v4))] [] σ Q
def GX12_thing_45 (X : Cx) (v1 : Int) (v2 : Int) (v3 : Int) (v4 : Int) (v5 : Int) (σ : Sg) (Q : Int → Sg → Prop) : Prop := VV X mX12_thing 45 [(0, .ref (cxA X 69)), (1, .int (gI v1)), (2, .int (gI v2)), (3, .int (gI v3)), (4, .int (gI v4)), (5, .int (gI v5))] [] σ Q
set_option maxHeartbeats 2000000 in
set_option maxRecDepth 20000 in
theorem rX12_thing_0 {X : Cx} {v1 : Int} {v2 : Int} {v3 : Int} {v4 : Int} {σ : Sg} {Q : Int → Sg → Prop} (h : Rng σ → KX12_in X v1 0 3 σ (fun r1 σ2 => Rng σ2 → (inI r1) ∧ ((r1 = 0 → Q ((-3)) σ2) ∧ (¬ r1 = 0 → KX12_in X v2 0 3 σ2 (fun r6 σ7 => Rng σ7 → (inI r6) ∧ ((r6 = 0 → Q ((-3)) σ7) ∧ (¬ r6 = 0 → KX12_in X v3 1 9 σ7 (fun r11 σ12 => Rng σ12 → (inI r11) ∧ ((r11 = 0 → Q ((-3)) σ12) ∧ (¬ r11 = 0 → KX12_in X v4 0 15 σ12 (fun r16 σ17 => Rng σ17 → (inI r16) ∧ ((¬ r16 = 0 → GX12_thing_45 X v1 v2 v3 v4 0 σ17 Q) ∧ (r16 = 0 → Q ((-3)) σ17))))))))))))) : GX12_thing_0 X v1 v2 v3 v4 σ Q := by
  unfold GX12_thing_0
  refine V_rng (fun hR0 => ?_)
  have h := h hR0
  refine V_iload_n 1 rfl rfl dX12_thing_0 ?_
  refine V_iconst dX12_thing_1 ?_
  refine V_iconst dX12_thing_2 ?_
  refine V_cS (M' := mX12_in) (As := [.int (gI v1), .int (gI 0), .int (gI 3)]) (fun r => [.int (gI r)]) ok_X12_in ok2_X12_in rfl rfl (Nat.le_of_ble_eq_true rfl) dX12_thing_3 lk_RX12_m102 (by decide) (fun _ => rfl) h (fun r1 σ2 h => ?_)
  refine V_rng (fun hR3 => ?_)
  have h := h hR3
  obtain ⟨g4, h⟩ := h
  refine V_if_eq (tgt := 39) dX12_thing_6 (by decide) g4 (fun q5 => ?_) (fun q5 => ?_)
  · have h := h.1 q5
    refine V_bipush (v := -3) (by decide) dX12_thing_39 ?_
    exact V_iret rfl (fun _ q => by cases q) (vp_nar_int _) dX12_thing_41 h
  · have h := h.2 q5
    refine V_iload_n 2 rfl rfl dX12_thing_9 ?_
    refine V_iconst dX12_thing_10 ?_
    refine V_iconst dX12_thing_11 ?_
    refine V_cS (M' := mX12_in) (As := [.int (gI v2), .int (gI 0), .int (gI 3)]) (fun r => [.int (gI r)]) ok_X12_in ok2_X12_in rfl rfl (Nat.le_of_ble_eq_true rfl) dX12_thing_12 lk_RX12_m102 (by decide) (fun _ => rfl) h (fun r6 σ7 h => ?_)
    refine V_rng (fun hR8 => ?_)
    have h := h hR8
    obtain ⟨g9, h⟩ := h
    refine V_if_eq (tgt := 39) dX12_thing_15 (by decide) g9 (fun q10 => ?_) (fun q10 => ?_)
    · have h := h.1 q10
      refine V_bipush (v := -3) (by decide) dX12_thing_39 ?_
      exact V_iret rfl (fun _ q => by cases q) (vp_nar_int _) dX12_thing_41 h
    · have h := h.2 q10
      refine V_iload_n 3 rfl rfl dX12_thing_18 ?_
      refine V_iconst dX12_thing_19 ?_
      refine V_bipush (v := 9) (by decide) dX12_thing_20 ?_
      refine V_cS (M' := mX12_in) (As := [.int (gI v3), .int (gI 1), .int (gI 9)]) (fun r => [.int (gI r)]) ok_X12_in ok2_X12_in rfl rfl (Nat.le_of_ble_eq_true rfl) dX12_thing_22 lk_RX12_m102 (by decide) (fun _ => rfl) h (fun r11 σ12 h => ?_)
      refine V_rng (fun hR13 => ?_)
      have h := h hR13
      obtain ⟨g14, h⟩ := h
      refine V_if_eq (tgt := 39) dX12_thing_25 (by decide) g14 (fun q15 => ?_) (fun q15 => ?_)
      · have h := h.1 q15
        refine V_bipush (v := -3) (by decide) dX12_thing_39 ?_
        exact V_iret rfl (fun _ q => by cases q) (vp_nar_int _) dX12_thing_41 h
      · have h := h.2 q15
        refine V_iload 4 rfl dX12_thing_28 ?_
        refine V_iconst dX12_thing_30 ?_
        refine V_bipush (v := 15) (by decide) dX12_thing_31 ?_
        refine V_cS (M' := mX12_in) (As := [.int (gI v4), .int (gI 0), .int (gI 15)]) (fun r => [.int (gI r)]) ok_X12_in ok2_X12_in rfl rfl (Nat.le_of_ble_eq_true rfl) dX12_thing_33 lk_RX12_m102 (by decide) (fun _ => rfl) h (fun r16 σ17 h => ?_)
        refine V_rng (fun hR18 => ?_)
        have h := h hR18
        obtain ⟨g19, h⟩ := h
        refine V_if_ne (tgt := 42) dX12_thing_36 (by decide) g19 (fun q20 => ?_) (fun q20 => ?_)
        · have h := h.1 q20
          refine V_iconst dX12_thing_42 ?_
          refine V_istore (L' := [(5, .int (gI 0)), (0, .ref (cxA X 69)), (1, .int (gI v1)), (2, .int (gI v2)), (3, .int (gI v3)), (4, .int (gI v4))]) (by decide) rfl dX12_thing_43 ?_
          exact V_sub [1, 2, 3, 4, 5, 0] rfl h
        · have h := h.2 q20
          refine V_bipush (v := -3) (by decide) dX12_thing_39 ?_
          exact V_iret rfl (fun _ q => by cases q) (vp_nar_int _) dX12_thing_41 h
set_option maxHeartbeats 2000000 in
set_option maxRecDepth 20000 in
theorem rX12_thing_45 {X : Cx} {v1 : Int} {v2 : Int} {v3 : Int} {v4 : Int} {v5 : Int} {σ : Sg} {Q : Int → Sg → Prop} (h : Rng σ → (inI v5) ∧ (((σ 69 0) ≤ v5 → ((¬ (σ 69 0) = 8 → (0 ≤ σ 69 0 ∧ σ 69 0 < 8) ∧ (inI v1) ∧ (0 ≤ σ 69 0 ∧ σ 69 0 < 8) ∧ (inI v2) ∧ (0 ≤ σ 69 0 ∧ σ 69 0 < 8) ∧ (inI v3) ∧ (0 ≤ σ 69 0 ∧ σ 69 0 < 8) ∧ (inI v4) ∧ (inI ((σ 69 0) + 1)) ∧ Q (((σ 69 0) + 1) - 1) (up2 (up2 (up2 (up2 (up2 σ 70 ((σ 69 0).toNat) v1) 71 ((σ 69 0).toNat) v2) 72 ((σ 69 0).toNat) v3) 74 ((σ 69 0).toNat) v4) 69 0 ((σ 69 0) + 1))) ∧ ((σ 69 0) = 8 → Q ((-5)) σ))) ∧ (v5 < (σ 69 0) → (0 ≤ v5 ∧ v5 < 8) ∧ (inI v4) ∧ ((¬ (σ 74 v5.toNat) = v4 → GX12_thing_45 X v1 v2 v3 v4 (v5 + 1) σ Q) ∧ ((σ 74 v5.toNat) = v4 → Q ((-4)) σ))))) : GX12_thing_45 X v1 v2 v3 v4 v5 σ Q := by
  unfold GX12_thing_45
  refine V_rng (fun hR0 => ?_)
  have h := h hR0
  refine V_iload 5 rfl dX12_thing_45 ?_
  refine V_aload_n 0 rfl rfl dX12_thing_47 ?_
  refine V_getI (f := 0) ci_X12 sh_69 rfl (by decide) dX12_thing_48 lk_RX12_f98 ?_
  obtain ⟨g1, h⟩ := h
  refine V_icmp_ge (tgt := 75) dX12_thing_51 (by decide) g1 (show inI (σ 69 0) from (hR0.1 69 0 (by decide))) (fun q2 => ?_) (fun q2 => ?_)
  · have h := h.1 q2
    refine V_aload_n 0 rfl rfl dX12_thing_75 ?_
    refine V_getI (f := 0) ci_X12 sh_69 rfl (by decide) dX12_thing_76 lk_RX12_f98 ?_
    refine V_bipush (v := 8) (by decide) dX12_thing_79 ?_
    refine V_icmp_ne (tgt := 87) dX12_thing_81 (by decide) (show inI (σ 69 0) from (hR0.1 69 0 (by decide))) (by decide) (fun q3 => ?_) (fun q3 => ?_)
    · have h := h.1 q3
      refine V_aload_n 0 rfl rfl dX12_thing_87 ?_
      refine V_getR (f := 1) ci_X12 sh_69 rfl (by decide) (c1 := 70) rfl dX12_thing_88 lk_RX12_f7 ?_
      refine V_aload_n 0 rfl rfl dX12_thing_91 ?_
      refine V_getI (f := 0) ci_X12 sh_69 rfl (by decide) dX12_thing_92 lk_RX12_f98 ?_
      refine V_iload_n 1 rfl rfl dX12_thing_95 ?_
      obtain ⟨g4, h⟩ := h
      obtain ⟨g5, h⟩ := h
      refine V_iast sh_70 (by decide) g4 g5 dX12_thing_96 ?_
      refine V_aload_n 0 rfl rfl dX12_thing_97 ?_
      refine V_getR (f := 2) ci_X12 sh_69 rfl (by decide) (c1 := 71) rfl dX12_thing_98 lk_RX12_f13 ?_
      refine V_aload_n 0 rfl rfl dX12_thing_101 ?_
      refine V_getI (f := 0) ci_X12 sh_69 rfl (by decide) dX12_thing_102 lk_RX12_f98 ?_
      refine V_iload_n 2 rfl rfl dX12_thing_105 ?_
      obtain ⟨g6, h⟩ := h
      obtain ⟨g7, h⟩ := h
      refine V_iast sh_71 (by decide) g6 g7 dX12_thing_106 ?_
      refine V_aload_n 0 rfl rfl dX12_thing_107 ?_
      refine V_getR (f := 3) ci_X12 sh_69 rfl (by decide) (c1 := 72) rfl dX12_thing_108 lk_RX12_f16 ?_
      refine V_aload_n 0 rfl rfl dX12_thing_111 ?_
      refine V_getI (f := 0) ci_X12 sh_69 rfl (by decide) dX12_thing_112 lk_RX12_f98 ?_
      refine V_iload_n 3 rfl rfl dX12_thing_115 ?_
      obtain ⟨g8, h⟩ := h
      obtain ⟨g9, h⟩ := h
      refine V_iast sh_72 (by decide) g8 g9 dX12_thing_116 ?_
      refine V_aload_n 0 rfl rfl dX12_thing_117 ?_
      refine V_getR (f := 5) ci_X12 sh_69 rfl (by decide) (c1 := 74) rfl dX12_thing_118 lk_RX12_f22 ?_
      refine V_aload_n 0 rfl rfl dX12_thing_121 ?_
      refine V_getI (f := 0) ci_X12 sh_69 rfl (by decide) dX12_thing_122 lk_RX12_f98 ?_
      refine V_iload 4 rfl dX12_thing_125 ?_
      obtain ⟨g10, h⟩ := h
      obtain ⟨g11, h⟩ := h
      refine V_iast sh_74 (by decide) g10 g11 dX12_thing_127 ?_
      refine V_aload_n 0 rfl rfl dX12_thing_128 ?_
      refine V_dup rfl dX12_thing_129 ?_
      refine V_getI (f := 0) ci_X12 sh_69 rfl (by decide) dX12_thing_130 lk_RX12_f98 ?_
      refine V_iconst dX12_thing_133 ?_
      refine V_iadd dX12_thing_134 ?_
      obtain ⟨g12, h⟩ := h
      refine V_putI (f := 0) ci_X12 sh_69 rfl (by decide) rfl rfl g12 dX12_thing_135 lk_RX12_f98 ?_
      refine V_aload_n 0 rfl rfl dX12_thing_138 ?_
      refine V_getI (f := 0) ci_X12 sh_69 rfl (by decide) dX12_thing_139 lk_RX12_f98 ?_
      refine V_iconst dX12_thing_142 ?_
      refine V_isub dX12_thing_143 ?_
      exact V_iret rfl (fun _ q => by cases q) (vp_nar_int _) dX12_thing_144 h
    · have h := h.2 q3
      refine V_bipush (v := -5) (by decide) dX12_thing_84 ?_
      exact V_iret rfl (fun _ q => by cases q) (vp_nar_int _) dX12_thing_86 h
  · have h := h.2 q2
    refine V_aload_n 0 rfl rfl dX12_thing_54 ?_
    refine V_getR (f := 5) ci_X12 sh_69 rfl (by decide) (c1 := 74) rfl dX12_thing_55 lk_RX12_f22 ?_
    refine V_iload 5 rfl dX12_thing_58 ?_
    obtain ⟨g13, h⟩ := h
    refine V_iald sh_74 (by decide) g13 dX12_thing_60 ?_
    refine V_iload 4 rfl dX12_thing_61 ?_
    obtain ⟨g14, h⟩ := h
    refine V_icmp_ne (tgt := 69) dX12_thing_63 (by decide) (show inI (σ 74 v5.toNat) from (inI_sh hR0 sh_74 (by decide))) g14 (fun q15 => ?_) (fun q15 => ?_)
    · have h := h.1 q15
      refine V_iinc (L' := [(5, .int (gI (v5 + 1))), (0, .ref (cxA X 69)), (1, .int (gI v1)), (2, .int (gI v2)), (3, .int (gI v3)), (4, .int (gI v4))]) 5 rfl (by decide) rfl dX12_thing_69 ?_
      refine V_goto (tgt := 45) dX12_thing_72 (by decide) ?_
      exact V_sub [1, 2, 3, 4, 5, 0] rfl h
    · have h := h.2 q15
      refine V_bipush (v := -4) (by decide) dX12_thing_66 ?_
      exact V_iret rfl (fun _ q => by cases q) (vp_nar_int _) dX12_thing_68 h
theorem eX12_thing {X : Cx} {v1 : Int} {v2 : Int} {v3 : Int} {v4 : Int} {σ : Sg} {Q : Int → Sg → Prop} (h : GX12_thing_0 X v1 v2 v3 v4 σ Q) : KX12_thing X v1 v2 v3 v4 σ Q := V_enter (by decide) (Nat.le_of_ble_eq_true rfl) rfl h
def GX12_paint_0 (X : Cx) (v1 : Int) (v2 : Int) (v3 : Int) (σ : Sg) (Q : Int → Sg → Prop) : Prop := VV X mX12_paint 0 [(0, .ref (cxA X 69)), (1, .int (gI v1)), (2, .int (gI v2)), (3, .int (gI v3))] [] σ Q
def GX12_paint_31 (X : Cx) (v1 : Int) (v2 : Int) (v3 : Int) (s0 : Int) (s1 : Int) (σ : Sg) (Q : Int → Sg → Prop) : Prop := VV X mX12_paint 31 [(0, .ref (cxA X 69)), (1, .int (gI v1)), (2, .int (gI v2)), (3, .int (gI v3))] [.int (gI s0), .int (gI s1)] σ Q
def GX12_paint_52 (X : Cx) (v1 : Int) (v2 : Int) (v3 : Int) (s0 : Int) (s1 : Int) (s2 : Int) (σ : Sg) (Q : Int → Sg → Prop) : Prop := VV X mX12_paint 52 [(0, .ref (cxA X 69)), (1, .int (gI v1)), (2, .int (gI v2)), (3, .int (gI v3))] [.int (gI s0), .int (gI s1), .int (gI s2)] σ Q
def GX12_paint_108 (X : Cx) (v1 : Int) (v2 : Int) (v3 : Int) (s0 : Int) (σ : Sg) (Q : Int → Sg → Prop) : Prop := VV X mX12_paint 108 [(0, .ref (cxA X 69)), (1, .int (gI v1)), (2, .int (gI v2)), (3, .int (gI v3))] [.int (gI s0)] σ Q
def GX12_paint_129 (X : Cx) (v1 : Int) (v2 : Int) (v3 : Int) (v4 : Int) (s0 : Int) (s1 : Int) (σ : Sg) (Q : Int → Sg → Prop) : Prop := VV X mX12_paint 129 [(0, .ref (cxA X 69)), (1, .int (gI v1)), (2, .int (gI v2)), (3, .int (gI v3)), (4, .int (gI v4))] [.int (gI s0), .int (gI s1), .ref (cxA X 70)] σ Q
def GX12_paint_150 (X : Cx) (v1 : Int) (v2 : Int) (v3 : Int) (v4 : Int) (s0 : Int) (s1 : Int) (σ : Sg) (Q : Int → Sg → Prop) : Prop := VV X mX12_paint 150 [(0, .ref (cxA X 69)), (1, .int (gI v1)), (2, .int (gI v2)), (3, .int (gI v3)), (4, .int (gI v4))] [.int (gI s0), .int (gI s1), .ref (cxA X 71)] σ Q
def GX12_paint_171 (X : Cx) (v1 : Int) (v2 : Int) (v3 : Int) (v4 : Int) (s0 : Int) (s1 : Int) (σ : Sg) (Q : Int → Sg → Prop) : Prop := VV X mX12_paint 171 [(0, .ref (cxA X 69)), (1, .int (gI v1)), (2, .int (gI v2)), (3, .int (gI v3)), (4, .int (gI v4))] [.int (gI s0), .int (gI s1), .ref (cxA X 72)] σ Q
set_option maxHeartbeats 2000000 in
set_option maxRecDepth 20000 in
theorem rX12_paint_0 {X : Cx} {v1 : Int} {v2 : Int} {v3 : Int} {σ : Sg} {Q : Int → Sg → Prop} (h : Rng σ → KX12_isThing X v1 σ (fun r1 σ2 => Rng σ2 → (inI r1) ∧ ((¬ r1 = 0 → KX12_in X v2 0 3 σ2 (fun r6 σ7 => Rng σ7 → (inI r6) ∧ ((r6 = 0 → Q ((-3)) σ7) ∧ (¬ r6 = 0 → (inI v2) ∧ ((¬ v2 = 2 → GX12_paint_31 X v1 v2 v3 0 v3 σ7 Q) ∧ (v2 = 2 → GX12_paint_31 X v1 v2 v3 1 v3 σ7 Q)))))) ∧ (r1 = 0 → Q ((-2)) σ2)))) : GX12_paint_0 X v1 v2 v3 σ Q := by
  unfold GX12_paint_0
  refine V_rng (fun hR0 => ?_)
  have h := h hR0
  refine V_aload_n 0 rfl rfl dX12_paint_0 ?_
  refine V_iload_n 1 rfl rfl dX12_paint_1 ?_
  refine V_cV (M' := mX12_isThing) (As := [.int (gI v1)]) (fun r => [.int (gI r)]) ok_X12_isThing ok2_X12_isThing sh_69 rfl (by decide) rfl rfl (Nat.le_of_ble_eq_true rfl) dX12_paint_2 lk_RX12_m106 (by decide) (fun _ => rfl) h (fun r1 σ2 h => ?_)
  refine V_rng (fun hR3 => ?_)
  have h := h hR3
  obtain ⟨g4, h⟩ := h
  refine V_if_ne (tgt := 11) dX12_paint_5 (by decide) g4 (fun q5 => ?_) (fun q5 => ?_)
  · have h := h.1 q5
    refine V_iload_n 2 rfl rfl dX12_paint_11 ?_
    refine V_iconst dX12_paint_12 ?_
    refine V_iconst dX12_paint_13 ?_
    refine V_cS (M' := mX12_in) (As := [.int (gI v2), .int (gI 0), .int (gI 3)]) (fun r => [.int (gI r)]) ok_X12_in ok2_X12_in rfl rfl (Nat.le_of_ble_eq_true rfl) dX12_paint_14 lk_RX12_m102 (by decide) (fun _ => rfl) h (fun r6 σ7 h => ?_)
    refine V_rng (fun hR8 => ?_)
    have h := h hR8
    obtain ⟨g9, h⟩ := h
    refine V_if_eq (tgt := 58) dX12_paint_17 (by decide) g9 (fun q10 => ?_) (fun q10 => ?_)
    · have h := h.1 q10
      refine V_bipush (v := -3) (by decide) dX12_paint_58 ?_
      exact V_iret rfl (fun _ q => by cases q) (vp_nar_int _) dX12_paint_60 h
    · have h := h.2 q10
      refine V_iload_n 3 rfl rfl dX12_paint_20 ?_
      refine V_iload_n 2 rfl rfl dX12_paint_21 ?_
      refine V_iconst dX12_paint_22 ?_
      obtain ⟨g11, h⟩ := h
      refine V_icmp_ne (tgt := 30) dX12_paint_23 (by decide) g11 (by decide) (fun q12 => ?_) (fun q12 => ?_)
      · have h := h.1 q12
        refine V_iconst dX12_paint_30 ?_
        exact h
      · have h := h.2 q12
        refine V_iconst dX12_paint_26 ?_
        refine V_goto (tgt := 31) dX12_paint_27 (by decide) ?_
        exact h
  · have h := h.2 q5
    refine V_bipush (v := -2) (by decide) dX12_paint_8 ?_
    exact V_iret rfl (fun _ q => by cases q) (vp_nar_int _) dX12_paint_10 h
set_option maxHeartbeats 2000000 in
set_option maxRecDepth 20000 in
theorem rX12_paint_31 {X : Cx} {v1 : Int} {v2 : Int} {v3 : Int} {s0 : Int} {s1 : Int} {σ : Sg} {Q : Int → Sg → Prop} (h : Rng σ → (inI v2) ∧ ((2 ≤ v2 → (inI v2) ∧ ((¬ v2 = 2 → GX12_paint_52 X v1 v2 v3 7 s0 s1 σ Q) ∧ (v2 = 2 → GX12_paint_52 X v1 v2 v3 9 s0 s1 σ Q))) ∧ (v2 < 2 → GX12_paint_52 X v1 v2 v3 3 s0 s1 σ Q))) : GX12_paint_31 X v1 v2 v3 s0 s1 σ Q := by
  unfold GX12_paint_31
  refine V_rng (fun hR0 => ?_)
  have h := h hR0
  refine V_iload_n 2 rfl rfl dX12_paint_31 ?_
  refine V_iconst dX12_paint_32 ?_
  obtain ⟨g1, h⟩ := h
  refine V_icmp_ge (tgt := 40) dX12_paint_33 (by decide) g1 (by decide) (fun q2 => ?_) (fun q2 => ?_)
  · have h := h.1 q2
    refine V_iload_n 2 rfl rfl dX12_paint_40 ?_
    refine V_iconst dX12_paint_41 ?_
    obtain ⟨g3, h⟩ := h
    refine V_icmp_ne (tgt := 50) dX12_paint_42 (by decide) g3 (by decide) (fun q4 => ?_) (fun q4 => ?_)
    · have h := h.1 q4
      refine V_bipush (v := 7) (by decide) dX12_paint_50 ?_
      exact h
    · have h := h.2 q4
      refine V_bipush (v := 9) (by decide) dX12_paint_45 ?_
      refine V_goto (tgt := 52) dX12_paint_47 (by decide) ?_
      exact h
  · have h := h.2 q2
    refine V_iconst dX12_paint_36 ?_
    refine V_goto (tgt := 52) dX12_paint_37 (by decide) ?_
    exact h
set_option maxHeartbeats 2000000 in
set_option maxRecDepth 20000 in
theorem rX12_paint_52 {X : Cx} {v1 : Int} {v2 : Int} {v3 : Int} {s0 : Int} {s1 : Int} {s2 : Int} {σ : Sg} {Q : Int → Sg → Prop} (h : Rng σ → KX12_in X s2 s1 s0 σ (fun r1 σ2 => Rng σ2 → (inI r1) ∧ ((¬ r1 = 0 → (inI v2) ∧ ((¬ v2 = 0 → (inI v2) ∧ ((¬ v2 = 1 → (inI v2) ∧ ((¬ v2 = 2 → (0 ≤ v1 ∧ v1 < 8) ∧ GX12_paint_108 X v1 v2 v3 (σ2 73 v1.toNat) σ2 Q) ∧ (v2 = 2 → (0 ≤ v1 ∧ v1 < 8) ∧ GX12_paint_108 X v1 v2 v3 (σ2 72 v1.toNat) σ2 Q))) ∧ (v2 = 1 → (0 ≤ v1 ∧ v1 < 8) ∧ GX12_paint_108 X v1 v2 v3 (σ2 71 v1.toNat) σ2 Q))) ∧ (v2 = 0 → (0 ≤ v1 ∧ v1 < 8) ∧ GX12_paint_108 X v1 v2 v3 (σ2 70 v1.toNat) σ2 Q))) ∧ (r1 = 0 → Q ((-3)) σ2)))) : GX12_paint_52 X v1 v2 v3 s0 s1 s2 σ Q := by
  unfold GX12_paint_52
  refine V_rng (fun hR0 => ?_)
  have h := h hR0
  refine V_cS (M' := mX12_in) (As := [.int (gI s2), .int (gI s1), .int (gI s0)]) (fun r => [.int (gI r)]) ok_X12_in ok2_X12_in rfl rfl (Nat.le_of_ble_eq_true rfl) dX12_paint_52 lk_RX12_m102 (by decide) (fun _ => rfl) h (fun r1 σ2 h => ?_)
  refine V_rng (fun hR3 => ?_)
  have h := h hR3
  obtain ⟨g4, h⟩ := h
  refine V_if_ne (tgt := 61) dX12_paint_55 (by decide) g4 (fun q5 => ?_) (fun q5 => ?_)
  · have h := h.1 q5
    refine V_iload_n 2 rfl rfl dX12_paint_61 ?_
    obtain ⟨g6, h⟩ := h
    refine V_if_ne (tgt := 74) dX12_paint_62 (by decide) g6 (fun q7 => ?_) (fun q7 => ?_)
    · have h := h.1 q7
      refine V_iload_n 2 rfl rfl dX12_paint_74 ?_
      refine V_iconst dX12_paint_75 ?_
      obtain ⟨g8, h⟩ := h
      refine V_icmp_ne (tgt := 88) dX12_paint_76 (by decide) g8 (by decide) (fun q9 => ?_) (fun q9 => ?_)
      · have h := h.1 q9
        refine V_iload_n 2 rfl rfl dX12_paint_88 ?_
        refine V_iconst dX12_paint_89 ?_
        obtain ⟨g10, h⟩ := h
        refine V_icmp_ne (tgt := 102) dX12_paint_90 (by decide) g10 (by decide) (fun q11 => ?_) (fun q11 => ?_)
        · have h := h.1 q11
          refine V_aload_n 0 rfl rfl dX12_paint_102 ?_
          refine V_getR (f := 4) ci_X12 sh_69 rfl (by decide) (c1 := 73) rfl dX12_paint_103 lk_RX12_f19 ?_
          refine V_iload_n 1 rfl rfl dX12_paint_106 ?_
          obtain ⟨g12, h⟩ := h
          refine V_iald sh_73 (by decide) g12 dX12_paint_107 ?_
          exact h
        · have h := h.2 q11
          refine V_aload_n 0 rfl rfl dX12_paint_93 ?_
          refine V_getR (f := 3) ci_X12 sh_69 rfl (by decide) (c1 := 72) rfl dX12_paint_94 lk_RX12_f16 ?_
          refine V_iload_n 1 rfl rfl dX12_paint_97 ?_
          obtain ⟨g13, h⟩ := h
          refine V_iald sh_72 (by decide) g13 dX12_paint_98 ?_
          refine V_goto (tgt := 108) dX12_paint_99 (by decide) ?_
          exact h
      · have h := h.2 q9
        refine V_aload_n 0 rfl rfl dX12_paint_79 ?_
        refine V_getR (f := 2) ci_X12 sh_69 rfl (by decide) (c1 := 71) rfl dX12_paint_80 lk_RX12_f13 ?_
        refine V_iload_n 1 rfl rfl dX12_paint_83 ?_
        obtain ⟨g14, h⟩ := h
        refine V_iald sh_71 (by decide) g14 dX12_paint_84 ?_
        refine V_goto (tgt := 108) dX12_paint_85 (by decide) ?_
        exact h
    · have h := h.2 q7
      refine V_aload_n 0 rfl rfl dX12_paint_65 ?_
      refine V_getR (f := 1) ci_X12 sh_69 rfl (by decide) (c1 := 70) rfl dX12_paint_66 lk_RX12_f7 ?_
      refine V_iload_n 1 rfl rfl dX12_paint_69 ?_
      obtain ⟨g15, h⟩ := h
      refine V_iald sh_70 (by decide) g15 dX12_paint_70 ?_
      refine V_goto (tgt := 108) dX12_paint_71 (by decide) ?_
      exact h
  · have h := h.2 q5
    refine V_bipush (v := -3) (by decide) dX12_paint_58 ?_
    exact V_iret rfl (fun _ q => by cases q) (vp_nar_int _) dX12_paint_60 h
set_option maxHeartbeats 2000000 in
set_option maxRecDepth 20000 in
theorem rX12_paint_108 {X : Cx} {v1 : Int} {v2 : Int} {v3 : Int} {s0 : Int} {σ : Sg} {Q : Int → Sg → Prop} (h : Rng σ → (inI v2) ∧ ((¬ v2 = 0 → (0 ≤ v1 ∧ v1 < 8) ∧ GX12_paint_129 X v1 v2 v3 s0 (σ 70 v1.toNat) v1 σ Q) ∧ (v2 = 0 → GX12_paint_129 X v1 v2 v3 s0 v3 v1 σ Q))) : GX12_paint_108 X v1 v2 v3 s0 σ Q := by
  unfold GX12_paint_108
  refine V_rng (fun hR0 => ?_)
  have h := h hR0
  refine V_istore (L' := [(4, .int (gI s0)), (0, .ref (cxA X 69)), (1, .int (gI v1)), (2, .int (gI v2)), (3, .int (gI v3))]) (by decide) rfl dX12_paint_108 ?_
  refine V_aload_n 1 rfl rfl dX12_paint_110 ?_
  refine V_getR (f := 1) ci_X12 sh_69 rfl (by decide) (c1 := 70) rfl dX12_paint_111 lk_RX12_f7 ?_
  refine V_iload_n 2 rfl rfl dX12_paint_114 ?_
  refine V_iload_n 3 rfl rfl dX12_paint_115 ?_
  obtain ⟨g1, h⟩ := h
  refine V_if_ne (tgt := 123) dX12_paint_116 (by decide) g1 (fun q2 => ?_) (fun q2 => ?_)
  · have h := h.1 q2
    refine V_aload_n 1 rfl rfl dX12_paint_123 ?_
    refine V_getR (f := 1) ci_X12 sh_69 rfl (by decide) (c1 := 70) rfl dX12_paint_124 lk_RX12_f7 ?_
    refine V_iload_n 2 rfl rfl dX12_paint_127 ?_
    obtain ⟨g3, h⟩ := h
    refine V_iald sh_70 (by decide) g3 dX12_paint_128 ?_
    exact V_sub [1, 2, 3, 4, 0] rfl h
  · have h := h.2 q2
    refine V_iload_n 4 rfl rfl dX12_paint_119 ?_
    refine V_goto (tgt := 129) dX12_paint_120 (by decide) ?_
    exact V_sub [1, 2, 3, 4, 0] rfl h
set_option maxHeartbeats 2000000 in
set_option maxRecDepth 20000 in
theorem rX12_paint_129 {X : Cx} {v1 : Int} {v2 : Int} {v3 : Int} {v4 : Int} {s0 : Int} {s1 : Int} {σ : Sg} {Q : Int → Sg → Prop} (h : Rng σ → (0 ≤ s1 ∧ s1 < 8) ∧ (inI s0) ∧ (inI v2) ∧ ((¬ v2 = 1 → (0 ≤ v1 ∧ v1 < 8) ∧ GX12_paint_150 X v1 v2 v3 v4 (σ 71 v1.toNat) v1 (up2 σ 70 s1.toNat s0) Q) ∧ (v2 = 1 → GX12_paint_150 X v1 v2 v3 v4 v3 v1 (up2 σ 70 s1.toNat s0) Q))) : GX12_paint_129 X v1 v2 v3 v4 s0 s1 σ Q := by
  unfold GX12_paint_129
  refine V_rng (fun hR0 => ?_)
  have h := h hR0
  obtain ⟨g1, h⟩ := h
  obtain ⟨g2, h⟩ := h
  refine V_iast sh_70 (by decide) g1 g2 dX12_paint_129 ?_
  refine V_aload_n 0 rfl rfl dX12_paint_130 ?_
  refine V_getR (f := 2) ci_X12 sh_69 rfl (by decide) (c1 := 71) rfl dX12_paint_131 lk_RX12_f13 ?_
  refine V_iload_n 1 rfl rfl dX12_paint_134 ?_
  refine V_iload_n 2 rfl rfl dX12_paint_135 ?_
  refine V_iconst dX12_paint_136 ?_
  obtain ⟨g3, h⟩ := h
  refine V_icmp_ne (tgt := 144) dX12_paint_137 (by decide) g3 (by decide) (fun q4 => ?_) (fun q4 => ?_)
  · have h := h.1 q4
    refine V_aload_n 0 rfl rfl dX12_paint_144 ?_
    refine V_getR (f := 2) ci_X12 sh_69 rfl (by decide) (c1 := 71) rfl dX12_paint_145 lk_RX12_f13 ?_
    refine V_iload_n 1 rfl rfl dX12_paint_148 ?_
    obtain ⟨g5, h⟩ := h
    refine V_iald sh_71 (by decide) g5 dX12_paint_149 ?_
    exact h
  · have h := h.2 q4
    refine V_iload_n 3 rfl rfl dX12_paint_140 ?_
    refine V_goto (tgt := 150) dX12_paint_141 (by decide) ?_
    exact h
set_option maxHeartbeats 2000000 in
set_option maxRecDepth 20000 in
theorem rX12_paint_150 {X : Cx} {v1 : Int} {v2 : Int} {v3 : Int} {v4 : Int} {s0 : Int} {s1 : Int} {σ : Sg} {Q : Int → Sg → Prop} (h : Rng σ → (0 ≤ s1 ∧ s1 < 8) ∧ (inI s0) ∧ (inI v2) ∧ ((¬ v2 = 2 → (0 ≤ v1 ∧ v1 < 8) ∧ GX12_paint_171 X v1 v2 v3 v4 (σ 72 v1.toNat) v1 (up2 σ 71 s1.toNat s0) Q) ∧ (v2 = 2 → GX12_paint_171 X v1 v2 v3 v4 v3 v1 (up2 σ 71 s1.toNat s0) Q))) : GX12_paint_150 X v1 v2 v3 v4 s0 s1 σ Q := by
  unfold GX12_paint_150
  refine V_rng (fun hR0 => ?_)
  have h := h hR0
  obtain ⟨g1, h⟩ := h
  obtain ⟨g2, h⟩ := h
  refine V_iast sh_71 (by decide) g1 g2 dX12_paint_150 ?_
  refine V_aload_n 0 rfl rfl dX12_paint_151 ?_
  refine V_getR (f := 3) ci_X12 sh_69 rfl (by decide) (c1 := 72) rfl dX12_paint_152 lk_RX12_f16 ?_
  refine V_iload_n 1 rfl rfl dX12_paint_155 ?_
  refine V_iload_n 2 rfl rfl dX12_paint_156 ?_
  refine V_iconst dX12_paint_157 ?_
  obtain ⟨g3, h⟩ := h
  refine V_icmp_ne (tgt := 165) dX12_paint_158 (by decide) g3 (by decide) (fun q4 => ?_) (fun q4 => ?_)
  · have h := h.1 q4
    refine V_aload_n 0 rfl rfl dX12_paint_165 ?_
    refine V_getR (f := 3) ci_X12 sh_69 rfl (by decide) (c1 := 72) rfl dX12_paint_166 lk_RX12_f16 ?_
    refine V_iload_n 1 rfl rfl dX12_paint_169 ?_
    obtain ⟨g5, h⟩ := h
    refine V_iald sh_72 (by decide) g5 dX12_paint_170 ?_
    exact h
  · have h := h.2 q4
    refine V_iload_n 3 rfl rfl dX12_paint_161 ?_
    refine V_goto (tgt := 171) dX12_paint_162 (by decide) ?_
    exact h
set_option maxHeartbeats 2000000 in
set_option maxRecDepth 20000 in
theorem rX12_paint_171 {X : Cx} {v1 : Int} {v2 : Int} {v3 : Int} {v4 : Int} {s0 : Int} {s1 : Int} {σ : Sg} {Q : Int → Sg → Prop} (h : Rng σ → (0 ≤ s1 ∧ s1 < 8) ∧ (inI s0) ∧ (inI v2) ∧ ((¬ v2 = 3 → (0 ≤ v1 ∧ v1 < 8) ∧ (0 ≤ v1 ∧ v1 < 8) ∧ Q v4 (up2 (up2 σ 72 s1.toNat s0) 73 v1.toNat (σ 73 v1.toNat))) ∧ (v2 = 3 → (0 ≤ v1 ∧ v1 < 8) ∧ (inI v3) ∧ Q v4 (up2 (up2 σ 72 s1.toNat s0) 73 v1.toNat v3)))) : GX12_paint_171 X v1 v2 v3 v4 s0 s1 σ Q := by
  unfold GX12_paint_171
  refine V_rng (fun hR0 => ?_)
  have h := h hR0
  obtain ⟨g1, h⟩ := h
  obtain ⟨g2, h⟩ := h
  refine V_iast sh_72 (by decide) g1 g2 dX12_paint_171 ?_
  refine V_aload_n 0 rfl rfl dX12_paint_172 ?_
  refine V_getR (f := 4) ci_X12 sh_69 rfl (by decide) (c1 := 73) rfl dX12_paint_173 lk_RX12_f19 ?_
  refine V_iload_n 1 rfl rfl dX12_paint_176 ?_
  refine V_iload_n 2 rfl rfl dX12_paint_177 ?_
  refine V_iconst dX12_paint_178 ?_
  obtain ⟨g3, h⟩ := h
  refine V_icmp_ne (tgt := 186) dX12_paint_179 (by decide) g3 (by decide) (fun q4 => ?_) (fun q4 => ?_)
  · have h := h.1 q4
    refine V_aload_n 0 rfl rfl dX12_paint_186 ?_
    refine V_getR (f := 4) ci_X12 sh_69 rfl (by decide) (c1 := 73) rfl dX12_paint_187 lk_RX12_f19 ?_
    refine V_iload_n 1 rfl rfl dX12_paint_190 ?_
    obtain ⟨g5, h⟩ := h
    refine V_iald sh_73 (by decide) g5 dX12_paint_191 ?_
    obtain ⟨g6, h⟩ := h
    refine V_iast sh_73 (by decide) g6 (show inI (σ 73 v1.toNat) from (inI_sh hR0 sh_73 (by decide))) dX12_paint_192 ?_
    refine V_iload 4 rfl dX12_paint_193 ?_
    exact V_iret rfl (fun _ q => by cases q) (vp_nar_int _) dX12_paint_195 h
  · have h := h.2 q4
    refine V_iload_n 3 rfl rfl dX12_paint_182 ?_
    refine V_goto (tgt := 192) dX12_paint_183 (by decide) ?_
    obtain ⟨g7, h⟩ := h
    obtain ⟨g8, h⟩ := h
    refine V_iast sh_73 (by decide) g7 g8 dX12_paint_192 ?_
    refine V_iload 4 rfl dX12_paint_193 ?_
    exact V_iret rfl (fun _ q => by cases q) (vp_nar_int _) dX12_paint_195 h
theorem eX12_paint {X : Cx} {v1 : Int} {v2 : Int} {v3 : Int} {σ : Sg} {Q : Int → Sg → Prop} (h : GX12_paint_0 X v1 v2 v3 σ Q) : KX12_paint X v1 v2 v3 σ Q := V_enter (by decide) (Nat.le_of_ble_eq_true rfl) rfl h
def GX12_tieMany_0 (X : Cx) (σ : Sg) (Q : Int → Sg → Prop) : Prop := VV X mX12_tieMany 0 [(0, .ref (cxA X 69))] [] σ Q
def GX12_tieMany_4 (X : Cx) (v1 : Int) (v2 : Int) (σ : Sg) (Q : Int → Sg → Prop) : Prop := VV X mX12_tieMany 4 [(0, .ref (cxA X 69)), (1, .int (gI v1)), (2, .int (gI v2))] [] σ Q
set_option maxHeartbeats 2000000 in
set_option maxRecDepth 20000 in
theorem rX12_tieMany_0 {X : Cx} {σ : Sg} {Q : Int → Sg → Prop} (h : Rng σ → GX12_tieMany_4 X 0 0 σ Q) : GX12_tieMany_0 X σ Q := by
  unfold GX12_tieMany_0
  refine V_rng (fun hR0 => ?_)
  have h := h hR0
  refine V_iconst dX12_tieMany_0 ?_
  refine V_istore_n (L' := [(1, .int (gI 0)), (0, .ref (cxA X 69))]) rfl (by decide) rfl dX12_tieMany_1 ?_
  refine V_iconst dX12_tieMany_2 ?_
  refine V_istore_n (L' := [(2, .int (gI 0)), (1, .int (gI 0)), (0, .ref (cxA X 69))]) rfl (by decide) rfl dX12_tieMany_3 ?_
  exact V_sub [2, 1, 0] rfl h
set_option maxHeartbeats 2000000 in
set_option maxRecDepth 20000 in
theorem rX12_tieMany_4 {X : Cx} {v1 : Int} {v2 : Int} {σ : Sg} {Q : Int → Sg → Prop} (h : Rng σ → (inI v2) ∧ (((σ 69 0) ≤ v2 → Q v1 σ) ∧ (v2 < (σ 69 0) → (0 ≤ v2 ∧ v2 < 8) ∧ KX12_bits X (σ 75 v2.toNat) σ (fun r4 σ5 => Rng σ5 → GX12_tieMany_4 X (v1 + r4) (v2 + 1) σ5 Q)))) : GX12_tieMany_4 X v1 v2 σ Q := by
  unfold GX12_tieMany_4
  refine V_rng (fun hR0 => ?_)
  have h := h hR0
  refine V_iload_n 2 rfl rfl dX12_tieMany_4 ?_
  refine V_aload_n 0 rfl rfl dX12_tieMany_5 ?_
  refine V_getI (f := 0) ci_X12 sh_69 rfl (by decide) dX12_tieMany_6 lk_RX12_f98 ?_
  obtain ⟨g1, h⟩ := h
  refine V_icmp_ge (tgt := 30) dX12_tieMany_9 (by decide) g1 (show inI (σ 69 0) from (hR0.1 69 0 (by decide))) (fun q2 => ?_) (fun q2 => ?_)
  · have h := h.1 q2
    refine V_iload_n 1 rfl rfl dX12_tieMany_30 ?_
    exact V_iret rfl (fun _ q => by cases q) (vp_nar_int _) dX12_tieMany_31 h
  · have h := h.2 q2
    refine V_iload_n 1 rfl rfl dX12_tieMany_12 ?_
    refine V_aload_n 0 rfl rfl dX12_tieMany_13 ?_
    refine V_getR (f := 6) ci_X12 sh_69 rfl (by decide) (c1 := 75) rfl dX12_tieMany_14 lk_RX12_f25 ?_
    refine V_iload_n 2 rfl rfl dX12_tieMany_17 ?_
    obtain ⟨g3, h⟩ := h
    refine V_iald sh_75 (by decide) g3 dX12_tieMany_18 ?_
    refine V_cS (M' := mX12_bits) (As := [.int (gI (σ 75 v2.toNat))]) (fun r => [.int (gI r), .int (gI v1)]) ok_X12_bits ok2_X12_bits rfl rfl (Nat.le_of_ble_eq_true rfl) dX12_tieMany_19 lk_RX12_m110 (by decide) (fun _ => rfl) h (fun r4 σ5 h => ?_)
    refine V_rng (fun hR6 => ?_)
    have h := h hR6
    refine V_iadd dX12_tieMany_22 ?_
    refine V_istore_n (L' := [(1, .int (gI (v1 + r4))), (0, .ref (cxA X 69)), (2, .int (gI v2))]) rfl (by decide) rfl dX12_tieMany_23 ?_
    refine V_iinc (L' := [(2, .int (gI (v2 + 1))), (1, .int (gI (v1 + r4))), (0, .ref (cxA X 69))]) 2 rfl (by decide) rfl dX12_tieMany_24 ?_
    refine V_goto (tgt := 4) dX12_tieMany_27 (by decide) ?_
    exact V_sub [2, 1, 0] rfl h
theorem eX12_tieMany {X : Cx} {σ : Sg} {Q : Int → Sg → Prop} (h : GX12_tieMany_0 X σ Q) : KX12_tieMany X σ Q := V_enter (by decide) (Nat.le_of_ble_eq_true rfl) rfl h
def GX12_tie_0 (X : Cx) (v1 : Int) (v2 : Int) (σ : Sg) (Q : Int → Sg → Prop) : Prop := VV X mX12_tie 0 [(0, .ref (cxA X 69)), (1, .int (gI v1)), (2, .int (gI v2))] [] σ Q
set_option maxHeartbeats 2000000 in
set_option maxRecDepth 20000 in
theorem rX12_tie_0 {X : Cx} {v1 : Int} {v2 : Int} {σ : Sg} {Q : Int → Sg → Prop} (h : Rng σ → KX12_isThing X v1 σ (fun r1 σ2 => Rng σ2 → (inI r1) ∧ ((r1 = 0 → Q ((-2)) σ2) ∧ (¬ r1 = 0 → KX12_isThing X v2 σ2 (fun r6 σ7 => Rng σ7 → (inI r6) ∧ ((r6 = 0 → Q ((-2)) σ7) ∧ (¬ r6 = 0 → (inI v1) ∧ (inI v2) ∧ ((¬ v1 = v2 → (0 ≤ v1 ∧ v1 < 8) ∧ ((¬ (zand (zshr (σ7 75 v1.toNat) v2) 1) = 1 → (0 ≤ v1 ∧ v1 < 8) ∧ (0 ≤ v1 ∧ v1 < 8) ∧ KX12_tieMany X (up2 σ7 75 v1.toNat (zor (σ7 75 v1.toNat) (zshl 1 v2))) (fun r18 σ19 => Rng σ19 → Q r18 σ19)) ∧ ((zand (zshr (σ7 75 v1.toNat) v2) 1) = 1 → Q ((-4)) σ7))) ∧ (v1 = v2 → Q ((-2)) σ7))))))))) : GX12_tie_0 X v1 v2 σ Q := by
  unfold GX12_tie_0
  refine V_rng (fun hR0 => ?_)
  have h := h hR0
  refine V_aload_n 0 rfl rfl dX12_tie_0 ?_
  refine V_iload_n 1 rfl rfl dX12_tie_1 ?_
  refine V_cV (M' := mX12_isThing) (As := [.int (gI v1)]) (fun r => [.int (gI r)]) ok_X12_isThing ok2_X12_isThing sh_69 rfl (by decide) rfl rfl (Nat.le_of_ble_eq_true rfl) dX12_tie_2 lk_RX12_m106 (by decide) (fun _ => rfl) h (fun r1 σ2 h => ?_)
  refine V_rng (fun hR3 => ?_)
  have h := h hR3
  obtain ⟨g4, h⟩ := h
  refine V_if_eq (tgt := 21) dX12_tie_5 (by decide) g4 (fun q5 => ?_) (fun q5 => ?_)
  · have h := h.1 q5
    refine V_bipush (v := -2) (by decide) dX12_tie_21 ?_
    exact V_iret rfl (fun _ q => by cases q) (vp_nar_int _) dX12_tie_23 h
  · have h := h.2 q5
    refine V_aload_n 0 rfl rfl dX12_tie_8 ?_
    refine V_iload_n 2 rfl rfl dX12_tie_9 ?_
    refine V_cV (M' := mX12_isThing) (As := [.int (gI v2)]) (fun r => [.int (gI r)]) ok_X12_isThing ok2_X12_isThing sh_69 rfl (by decide) rfl rfl (Nat.le_of_ble_eq_true rfl) dX12_tie_10 lk_RX12_m106 (by decide) (fun _ => rfl) h (fun r6 σ7 h => ?_)
    refine V_rng (fun hR8 => ?_)
    have h := h hR8
    obtain ⟨g9, h⟩ := h
    refine V_if_eq (tgt := 21) dX12_tie_13 (by decide) g9 (fun q10 => ?_) (fun q10 => ?_)
    · have h := h.1 q10
      refine V_bipush (v := -2) (by decide) dX12_tie_21 ?_
      exact V_iret rfl (fun _ q => by cases q) (vp_nar_int _) dX12_tie_23 h
    · have h := h.2 q10
      refine V_iload_n 1 rfl rfl dX12_tie_16 ?_
      refine V_iload_n 2 rfl rfl dX12_tie_17 ?_
      obtain ⟨g11, h⟩ := h
      obtain ⟨g12, h⟩ := h
      refine V_icmp_ne (tgt := 24) dX12_tie_18 (by decide) g11 g12 (fun q13 => ?_) (fun q13 => ?_)
      · have h := h.1 q13
        refine V_aload_n 0 rfl rfl dX12_tie_24 ?_
        refine V_getR (f := 6) ci_X12 sh_69 rfl (by decide) (c1 := 75) rfl dX12_tie_25 lk_RX12_f25 ?_
        refine V_iload_n 1 rfl rfl dX12_tie_28 ?_
        obtain ⟨g14, h⟩ := h
        refine V_iald sh_75 (by decide) g14 dX12_tie_29 ?_
        refine V_iload_n 2 rfl rfl dX12_tie_30 ?_
        refine V_ishr dX12_tie_31 ?_
        refine V_iconst dX12_tie_32 ?_
        refine V_iand dX12_tie_33 ?_
        refine V_iconst dX12_tie_34 ?_
        refine V_icmp_ne (tgt := 41) dX12_tie_35 (by decide) (inI_z _) (by decide) (fun q15 => ?_) (fun q15 => ?_)
        · have h := h.1 q15
          refine V_aload_n 0 rfl rfl dX12_tie_41 ?_
          refine V_getR (f := 6) ci_X12 sh_69 rfl (by decide) (c1 := 75) rfl dX12_tie_42 lk_RX12_f25 ?_
          refine V_iload_n 1 rfl rfl dX12_tie_45 ?_
          refine V_aload_n 0 rfl rfl dX12_tie_46 ?_
          refine V_getR (f := 6) ci_X12 sh_69 rfl (by decide) (c1 := 75) rfl dX12_tie_47 lk_RX12_f25 ?_
          refine V_iload_n 1 rfl rfl dX12_tie_50 ?_
          obtain ⟨g16, h⟩ := h
          refine V_iald sh_75 (by decide) g16 dX12_tie_51 ?_
          refine V_iconst dX12_tie_52 ?_
          refine V_iload_n 2 rfl rfl dX12_tie_53 ?_
          refine V_ishl dX12_tie_54 ?_
          refine V_ior dX12_tie_55 ?_
          obtain ⟨g17, h⟩ := h
          refine V_iast sh_75 (by decide) g17 (inI_z _) dX12_tie_56 ?_
          refine V_aload_n 0 rfl rfl dX12_tie_57 ?_
          refine V_cV (M' := mX12_tieMany) (As := []) (fun r => [.int (gI r)]) ok_X12_tieMany ok2_X12_tieMany sh_69 rfl (by decide) rfl rfl (Nat.le_of_ble_eq_true rfl) dX12_tie_58 lk_RX12_m114 (by decide) (fun _ => rfl) h (fun r18 σ19 h => ?_)
          refine V_rng (fun hR20 => ?_)
          have h := h hR20
          exact V_iret rfl (fun _ q => by cases q) (vp_nar_int _) dX12_tie_61 h
        · have h := h.2 q15
          refine V_bipush (v := -4) (by decide) dX12_tie_38 ?_
          exact V_iret rfl (fun _ q => by cases q) (vp_nar_int _) dX12_tie_40 h
      · have h := h.2 q13
        refine V_bipush (v := -2) (by decide) dX12_tie_21 ?_
        exact V_iret rfl (fun _ q => by cases q) (vp_nar_int _) dX12_tie_23 h
theorem eX12_tie {X : Cx} {v1 : Int} {v2 : Int} {σ : Sg} {Q : Int → Sg → Prop} (h : GX12_tie_0 X v1 v2 σ Q) : KX12_tie X v1 v2 σ Q := V_enter (by decide) (Nat.le_of_ble_eq_true rfl) rfl h
def GX12_besides_0 (X : Cx) (v1 : Int) (σ : Sg) (Q : Int → Sg → Prop) : Prop := VV X mX12_besides 0 [(0, .ref (cxA X 69)), (1, .int (gI v1))] [] σ Q
def GX12_besides_4 (X : Cx) (v1 : Int) (v2 : Int) (v3 : Int) (σ : Sg) (Q : Int → Sg → Prop) : Prop := VV X mX12_besides 4 [(0, .ref (cxA X 69)), (1, .int (gI v1)), (2, .int (gI v2)), (3, .int (gI v3))] [] σ Q
def GX12_besides_47 (X : Cx) (v1 : Int) (v2 : Int) (v3 : Int) (s0 : Int) (σ : Sg) (Q : Int → Sg → Prop) : Prop := VV X mX12_besides 47 [(0, .ref (cxA X 69)), (1, .int (gI v1)), (2, .int (gI v2)), (3, .int (gI v3))] [.int (gI s0)] σ Q
def GX12_besides_54 (X : Cx) (v1 : Int) (v2 : Int) (v3 : Int) (s0 : Int) (s1 : Int) (σ : Sg) (Q : Int → Sg → Prop) : Prop := VV X mX12_besides 54 [(0, .ref (cxA X 69)), (1, .int (gI v1)), (2, .int (gI v2)), (3, .int (gI v3))] [.int (gI s0), .int (gI s1)] σ Q
set_option maxHeartbeats 2000000 in
set_option maxRecDepth 20000 in
theorem rX12_besides_0 {X : Cx} {v1 : Int} {σ : Sg} {Q : Int → Sg → Prop} (h : Rng σ → GX12_besides_4 X v1 0 0 σ Q) : GX12_besides_0 X v1 σ Q := by
  unfold GX12_besides_0
  refine V_rng (fun hR0 => ?_)
  have h := h hR0
  refine V_iconst dX12_besides_0 ?_
  refine V_istore_n (L' := [(2, .int (gI 0)), (0, .ref (cxA X 69)), (1, .int (gI v1))]) rfl (by decide) rfl dX12_besides_1 ?_
  refine V_iconst dX12_besides_2 ?_
  refine V_istore_n (L' := [(3, .int (gI 0)), (2, .int (gI 0)), (0, .ref (cxA X 69)), (1, .int (gI v1))]) rfl (by decide) rfl dX12_besides_3 ?_
  exact V_sub [2, 3, 1, 0] rfl h
set_option maxHeartbeats 2000000 in
set_option maxRecDepth 20000 in
theorem rX12_besides_4 {X : Cx} {v1 : Int} {v2 : Int} {v3 : Int} {σ : Sg} {Q : Int → Sg → Prop} (h : Rng σ → (inI v3) ∧ (((σ 69 0) ≤ v3 → Q v2 σ) ∧ (v3 < (σ 69 0) → (0 ≤ v3 ∧ v3 < 8) ∧ (0 ≤ v1 ∧ v1 < 8) ∧ (inI ((σ 74 v3.toNat) - (σ 74 v1.toNat))) ∧ ((((σ 74 v3.toNat) - (σ 74 v1.toNat)) = 1 → GX12_besides_47 X v1 v2 v3 v2 σ Q) ∧ (¬ ((σ 74 v3.toNat) - (σ 74 v1.toNat)) = 1 → (0 ≤ v1 ∧ v1 < 8) ∧ (0 ≤ v3 ∧ v3 < 8) ∧ (inI ((σ 74 v1.toNat) - (σ 74 v3.toNat))) ∧ ((¬ ((σ 74 v1.toNat) - (σ 74 v3.toNat)) = 1 → GX12_besides_54 X v1 v2 v3 0 v2 σ Q) ∧ (((σ 74 v1.toNat) - (σ 74 v3.toNat)) = 1 → GX12_besides_47 X v1 v2 v3 v2 σ Q))))))) : GX12_besides_4 X v1 v2 v3 σ Q := by
  unfold GX12_besides_4
  refine V_rng (fun hR0 => ?_)
  have h := h hR0
  refine V_iload_n 3 rfl rfl dX12_besides_4 ?_
  refine V_aload_n 0 rfl rfl dX12_besides_5 ?_
  refine V_getI (f := 0) ci_X12 sh_69 rfl (by decide) dX12_besides_6 lk_RX12_f98 ?_
  obtain ⟨g1, h⟩ := h
  refine V_icmp_ge (tgt := 62) dX12_besides_9 (by decide) g1 (show inI (σ 69 0) from (hR0.1 69 0 (by decide))) (fun q2 => ?_) (fun q2 => ?_)
  · have h := h.1 q2
    refine V_iload_n 2 rfl rfl dX12_besides_62 ?_
    exact V_iret rfl (fun _ q => by cases q) (vp_nar_int _) dX12_besides_63 h
  · have h := h.2 q2
    refine V_iload_n 2 rfl rfl dX12_besides_12 ?_
    refine V_aload_n 0 rfl rfl dX12_besides_13 ?_
    refine V_getR (f := 5) ci_X12 sh_69 rfl (by decide) (c1 := 74) rfl dX12_besides_14 lk_RX12_f22 ?_
    refine V_iload_n 3 rfl rfl dX12_besides_17 ?_
    obtain ⟨g3, h⟩ := h
    refine V_iald sh_74 (by decide) g3 dX12_besides_18 ?_
    refine V_aload_n 0 rfl rfl dX12_besides_19 ?_
    refine V_getR (f := 5) ci_X12 sh_69 rfl (by decide) (c1 := 74) rfl dX12_besides_20 lk_RX12_f22 ?_
    refine V_iload_n 1 rfl rfl dX12_besides_23 ?_
    obtain ⟨g4, h⟩ := h
    refine V_iald sh_74 (by decide) g4 dX12_besides_24 ?_
    refine V_isub dX12_besides_25 ?_
    refine V_iconst dX12_besides_26 ?_
    obtain ⟨g5, h⟩ := h
    refine V_icmp_eq (tgt := 47) dX12_besides_27 (by decide) g5 (by decide) (fun q6 => ?_) (fun q6 => ?_)
    · have h := h.1 q6
      exact h
    · have h := h.2 q6
      refine V_aload_n 0 rfl rfl dX12_besides_30 ?_
      refine V_getR (f := 5) ci_X12 sh_69 rfl (by decide) (c1 := 74) rfl dX12_besides_31 lk_RX12_f22 ?_
      refine V_iload_n 1 rfl rfl dX12_besides_34 ?_
      obtain ⟨g7, h⟩ := h
      refine V_iald sh_74 (by decide) g7 dX12_besides_35 ?_
      refine V_aload_n 0 rfl rfl dX12_besides_36 ?_
      refine V_getR (f := 5) ci_X12 sh_69 rfl (by decide) (c1 := 74) rfl dX12_besides_37 lk_RX12_f22 ?_
      refine V_iload_n 3 rfl rfl dX12_besides_40 ?_
      obtain ⟨g8, h⟩ := h
      refine V_iald sh_74 (by decide) g8 dX12_besides_41 ?_
      refine V_isub dX12_besides_42 ?_
      refine V_iconst dX12_besides_43 ?_
      obtain ⟨g9, h⟩ := h
      refine V_icmp_ne (tgt := 53) dX12_besides_44 (by decide) g9 (by decide) (fun q10 => ?_) (fun q10 => ?_)
      · have h := h.1 q10
        refine V_iconst dX12_besides_53 ?_
        exact h
      · have h := h.2 q10
        exact h
set_option maxHeartbeats 2000000 in
set_option maxRecDepth 20000 in
theorem rX12_besides_47 {X : Cx} {v1 : Int} {v2 : Int} {v3 : Int} {s0 : Int} {σ : Sg} {Q : Int → Sg → Prop} (h : Rng σ → GX12_besides_54 X v1 v2 v3 (zshl 1 v3) s0 σ Q) : GX12_besides_47 X v1 v2 v3 s0 σ Q := by
  unfold GX12_besides_47
  refine V_rng (fun hR0 => ?_)
  have h := h hR0
  refine V_iconst dX12_besides_47 ?_
  refine V_iload_n 3 rfl rfl dX12_besides_48 ?_
  refine V_ishl dX12_besides_49 ?_
  refine V_goto (tgt := 54) dX12_besides_50 (by decide) ?_
  exact h
set_option maxHeartbeats 2000000 in
set_option maxRecDepth 20000 in
theorem rX12_besides_54 {X : Cx} {v1 : Int} {v2 : Int} {v3 : Int} {s0 : Int} {s1 : Int} {σ : Sg} {Q : Int → Sg → Prop} (h : Rng σ → GX12_besides_4 X v1 (zor s1 s0) (v3 + 1) σ Q) : GX12_besides_54 X v1 v2 v3 s0 s1 σ Q := by
  unfold GX12_besides_54
  refine V_rng (fun hR0 => ?_)
  have h := h hR0
  refine V_ior dX12_besides_54 ?_
  refine V_istore_n (L' := [(2, .int (gI (zor s1 s0))), (0, .ref (cxA X 69)), (1, .int (gI v1)), (3, .int (gI v3))]) rfl (by decide) rfl dX12_besides_55 ?_
  refine V_iinc (L' := [(3, .int (gI (v3 + 1))), (2, .int (gI (zor s1 s0))), (0, .ref (cxA X 69)), (1, .int (gI v1))]) 3 rfl (by decide) rfl dX12_besides_56 ?_
  refine V_goto (tgt := 4) dX12_besides_59 (by decide) ?_
  exact V_sub [2, 3, 1, 0] rfl h
theorem eX12_besides {X : Cx} {v1 : Int} {σ : Sg} {Q : Int → Sg → Prop} (h : GX12_besides_0 X v1 σ Q) : KX12_besides X v1 σ Q := V_enter (by decide) (Nat.le_of_ble_eq_true rfl) rfl h
def GX12_of_0 (X : Cx) (v1 : Int) (v2 : Int) (σ : Sg) (Q : Int → Sg → Prop) : Prop := VV X mX12_of 0 [(0, .ref (cxA X 69)), (1, .int (gI v1)), (2, .int (gI v2))] [] σ Q
set_option maxHeartbeats 2000000 in
set_option maxRecDepth 20000 in
theorem rX12_of_0 {X : Cx} {v1 : Int} {v2 : Int} {σ : Sg} {Q : Int → Sg → Prop} (h : Rng σ → KX12_isThing X v1 σ (fun r1 σ2 => Rng σ2 → (inI r1) ∧ ((¬ r1 = 0 → (inI v2) ∧ ((v2 = 0 → (0 ≤ v1 ∧ v1 < 8) ∧ Q (σ2 70 v1.toNat) σ2) ∧ (v2 = 1 → (0 ≤ v1 ∧ v1 < 8) ∧ Q (σ2 71 v1.toNat) σ2) ∧ (v2 = 2 → (0 ≤ v1 ∧ v1 < 8) ∧ Q (σ2 72 v1.toNat) σ2) ∧ (v2 = 3 → (0 ≤ v1 ∧ v1 < 8) ∧ Q (σ2 73 v1.toNat) σ2) ∧ (v2 = 4 → (0 ≤ v1 ∧ v1 < 8) ∧ Q (σ2 74 v1.toNat) σ2) ∧ (v2 = 5 → KX12_besides X v1 σ2 (fun r13 σ14 => Rng σ14 → Q r13 σ14)) ∧ (v2 = 6 → (0 ≤ v1 ∧ v1 < 8) ∧ Q (σ2 75 v1.toNat) σ2) ∧ (¬ v2 = 0 ∧ ¬ v2 = 1 ∧ ¬ v2 = 2 ∧ ¬ v2 = 3 ∧ ¬ v2 = 4 ∧ ¬ v2 = 5 ∧ ¬ v2 = 6 → Q ((-3)) σ2))) ∧ (r1 = 0 → Q ((-2)) σ2)))) : GX12_of_0 X v1 v2 σ Q := by
  unfold GX12_of_0
  refine V_rng (fun hR0 => ?_)
  have h := h hR0
  refine V_aload_n 0 rfl rfl dX12_of_0 ?_
  refine V_iload_n 1 rfl rfl dX12_of_1 ?_
  refine V_cV (M' := mX12_isThing) (As := [.int (gI v1)]) (fun r => [.int (gI r)]) ok_X12_isThing ok2_X12_isThing sh_69 rfl (by decide) rfl rfl (Nat.le_of_ble_eq_true rfl) dX12_of_2 lk_RX12_m106 (by decide) (fun _ => rfl) h (fun r1 σ2 h => ?_)
  refine V_rng (fun hR3 => ?_)
  have h := h hR3
  obtain ⟨g4, h⟩ := h
  refine V_if_ne (tgt := 11) dX12_of_5 (by decide) g4 (fun q5 => ?_) (fun q5 => ?_)
  · have h := h.1 q5
    refine V_iload_n 2 rfl rfl dX12_of_11 ?_
    obtain ⟨g6, h⟩ := h
    rcases (show v2 = 0 ∨ v2 = 1 ∨ v2 = 2 ∨ v2 = 3 ∨ v2 = 4 ∨ v2 = 5 ∨ v2 = 6 ∨ (¬ v2 = 0 ∧ ¬ v2 = 1 ∧ ¬ v2 = 2 ∧ ¬ v2 = 3 ∧ ¬ v2 = 4 ∧ ¬ v2 = 5 ∧ ¬ v2 = 6) by omega) with q7 | q7 | q7 | q7 | q7 | q7 | q7 | q7
    · have h := h.1 q7
      refine V_tsw (tgt := 56) (off := 44) dX12_of_12 g6 (by omega) (by omega) (by rw [q7]; rfl) (by decide) ?_
      refine V_aload_n 0 rfl rfl dX12_of_56 ?_
      refine V_getR (f := 1) ci_X12 sh_69 rfl (by decide) (c1 := 70) rfl dX12_of_57 lk_RX12_f7 ?_
      refine V_iload_n 1 rfl rfl dX12_of_60 ?_
      obtain ⟨g8, h⟩ := h
      refine V_iald sh_70 (by decide) g8 dX12_of_61 ?_
      exact V_iret rfl (fun _ q => by cases q) (vp_nar_int _) dX12_of_62 h
    · have h := h.2.1 q7
      refine V_tsw (tgt := 63) (off := 51) dX12_of_12 g6 (by omega) (by omega) (by rw [q7]; rfl) (by decide) ?_
      refine V_aload_n 0 rfl rfl dX12_of_63 ?_
      refine V_getR (f := 2) ci_X12 sh_69 rfl (by decide) (c1 := 71) rfl dX12_of_64 lk_RX12_f13 ?_
      refine V_iload_n 1 rfl rfl dX12_of_67 ?_
      obtain ⟨g9, h⟩ := h
      refine V_iald sh_71 (by decide) g9 dX12_of_68 ?_
      exact V_iret rfl (fun _ q => by cases q) (vp_nar_int _) dX12_of_69 h
    · have h := h.2.2.1 q7
      refine V_tsw (tgt := 70) (off := 58) dX12_of_12 g6 (by omega) (by omega) (by rw [q7]; rfl) (by decide) ?_
      refine V_aload_n 0 rfl rfl dX12_of_70 ?_
      refine V_getR (f := 3) ci_X12 sh_69 rfl (by decide) (c1 := 72) rfl dX12_of_71 lk_RX12_f16 ?_
      refine V_iload_n 1 rfl rfl dX12_of_74 ?_
      obtain ⟨g10, h⟩ := h
      refine V_iald sh_72 (by decide) g10 dX12_of_75 ?_
      exact V_iret rfl (fun _ q => by cases q) (vp_nar_int _) dX12_of_76 h
    · have h := h.2.2.2.1 q7
      refine V_tsw (tgt := 77) (off := 65) dX12_of_12 g6 (by omega) (by omega) (by rw [q7]; rfl) (by decide) ?_
      refine V_aload_n 0 rfl rfl dX12_of_77 ?_
      refine V_getR (f := 4) ci_X12 sh_69 rfl (by decide) (c1 := 73) rfl dX12_of_78 lk_RX12_f19 ?_
      refine V_iload_n 1 rfl rfl dX12_of_81 ?_
      obtain ⟨g11, h⟩ := h
      refine V_iald sh_73 (by decide) g11 dX12_of_82 ?_
      exact V_iret rfl (fun _ q => by cases q) (vp_nar_int _) dX12_of_83 h
    · have h := h.2.2.2.2.1 q7
      refine V_tsw (tgt := 84) (off := 72) dX12_of_12 g6 (by omega) (by omega) (by rw [q7]; rfl) (by decide) ?_
      refine V_aload_n 0 rfl rfl dX12_of_84 ?_
      refine V_getR (f := 5) ci_X12 sh_69 rfl (by decide) (c1 := 74) rfl dX12_of_85 lk_RX12_f22 ?_
      refine V_iload_n 1 rfl rfl dX12_of_88 ?_
      obtain ⟨g12, h⟩ := h
      refine V_iald sh_74 (by decide) g12 dX12_of_89 ?_
      exact V_iret rfl (fun _ q => by cases q) (vp_nar_int _) dX12_of_90 h
    · have h := h.2.2.2.2.2.1 q7
      refine V_tsw (tgt := 91) (off := 79) dX12_of_12 g6 (by omega) (by omega) (by rw [q7]; rfl) (by decide) ?_
      refine V_aload_n 0 rfl rfl dX12_of_91 ?_
      refine V_iload_n 1 rfl rfl dX12_of_92 ?_
      refine V_cV (M' := mX12_besides) (As := [.int (gI v1)]) (fun r => [.int (gI r)]) ok_X12_besides ok2_X12_besides sh_69 rfl (by decide) rfl rfl (Nat.le_of_ble_eq_true rfl) dX12_of_93 lk_RX12_m118 (by decide) (fun _ => rfl) h (fun r13 σ14 h => ?_)
      refine V_rng (fun hR15 => ?_)
      have h := h hR15
      exact V_iret rfl (fun _ q => by cases q) (vp_nar_int _) dX12_of_96 h
    · have h := h.2.2.2.2.2.2.1 q7
      refine V_tsw (tgt := 97) (off := 85) dX12_of_12 g6 (by omega) (by omega) (by rw [q7]; rfl) (by decide) ?_
      refine V_aload_n 0 rfl rfl dX12_of_97 ?_
      refine V_getR (f := 6) ci_X12 sh_69 rfl (by decide) (c1 := 75) rfl dX12_of_98 lk_RX12_f25 ?_
      refine V_iload_n 1 rfl rfl dX12_of_101 ?_
      obtain ⟨g16, h⟩ := h
      refine V_iald sh_75 (by decide) g16 dX12_of_102 ?_
      exact V_iret rfl (fun _ q => by cases q) (vp_nar_int _) dX12_of_103 h
    · have h := h.2.2.2.2.2.2.2 q7
      refine V_tswD (tgt := 104) dX12_of_12 g6 (by omega) (by decide) ?_
      refine V_bipush (v := -3) (by decide) dX12_of_104 ?_
      exact V_iret rfl (fun _ q => by cases q) (vp_nar_int _) dX12_of_106 h
  · have h := h.2 q5
    refine V_bipush (v := -2) (by decide) dX12_of_8 ?_
    exact V_iret rfl (fun _ q => by cases q) (vp_nar_int _) dX12_of_10 h
theorem eX12_of {X : Cx} {v1 : Int} {v2 : Int} {σ : Sg} {Q : Int → Sg → Prop} (h : GX12_of_0 X v1 v2 σ Q) : KX12_of X v1 v2 σ Q := V_enter (by decide) (Nat.le_of_ble_eq_true rfl) rfl h
def GX12_price_0 (X : Cx) (v1 : Int) (v2 : Int) (σ : Sg) (Q : Int → Sg → Prop) : Prop := VV X mX12_price 0 [(0, .ref (cxA X 69)), (1, .int (gI v1)), (2, .int (gI v2))] [] σ Q
set_option maxHeartbeats 2000000 in
set_option maxRecDepth 20000 in
theorem rX12_price_0 {X : Cx} {v1 : Int} {v2 : Int} {σ : Sg} {Q : Int → Sg → Prop} (h : Rng σ → KX12_in X v1 0 14 σ (fun r1 σ2 => Rng σ2 → (inI r1) ∧ ((r1 = 0 → Q ((-3)) σ2) ∧ (¬ r1 = 0 → KX12_in X v2 1 9 σ2 (fun r6 σ7 => Rng σ7 → (inI r6) ∧ ((¬ r6 = 0 → (0 ≤ v1 ∧ v1 < 15) ∧ (0 ≤ v1 ∧ v1 < 15) ∧ (inI v2) ∧ Q (σ7 76 v1.toNat) (up2 σ7 76 v1.toNat v2)) ∧ (r6 = 0 → Q ((-3)) σ7))))))) : GX12_price_0 X v1 v2 σ Q := by
  unfold GX12_price_0
  refine V_rng (fun hR0 => ?_)
  have h := h hR0
  refine V_iload_n 1 rfl rfl dX12_price_0 ?_
  refine V_iconst dX12_price_1 ?_
  refine V_bipush (v := 14) (by decide) dX12_price_2 ?_
  refine V_cS (M' := mX12_in) (As := [.int (gI v1), .int (gI 0), .int (gI 14)]) (fun r => [.int (gI r)]) ok_X12_in ok2_X12_in rfl rfl (Nat.le_of_ble_eq_true rfl) dX12_price_4 lk_RX12_m102 (by decide) (fun _ => rfl) h (fun r1 σ2 h => ?_)
  refine V_rng (fun hR3 => ?_)
  have h := h hR3
  obtain ⟨g4, h⟩ := h
  refine V_if_eq (tgt := 20) dX12_price_7 (by decide) g4 (fun q5 => ?_) (fun q5 => ?_)
  · have h := h.1 q5
    refine V_bipush (v := -3) (by decide) dX12_price_20 ?_
    exact V_iret rfl (fun _ q => by cases q) (vp_nar_int _) dX12_price_22 h
  · have h := h.2 q5
    refine V_iload_n 2 rfl rfl dX12_price_10 ?_
    refine V_iconst dX12_price_11 ?_
    refine V_bipush (v := 9) (by decide) dX12_price_12 ?_
    refine V_cS (M' := mX12_in) (As := [.int (gI v2), .int (gI 1), .int (gI 9)]) (fun r => [.int (gI r)]) ok_X12_in ok2_X12_in rfl rfl (Nat.le_of_ble_eq_true rfl) dX12_price_14 lk_RX12_m102 (by decide) (fun _ => rfl) h (fun r6 σ7 h => ?_)
    refine V_rng (fun hR8 => ?_)
    have h := h hR8
    obtain ⟨g9, h⟩ := h
    refine V_if_ne (tgt := 23) dX12_price_17 (by decide) g9 (fun q10 => ?_) (fun q10 => ?_)
    · have h := h.1 q10
      refine V_aload_n 0 rfl rfl dX12_price_23 ?_
      refine V_getR (f := 7) ci_X12 sh_69 rfl (by decide) (c1 := 76) rfl dX12_price_24 lk_RX12_f28 ?_
      refine V_iload_n 1 rfl rfl dX12_price_27 ?_
      obtain ⟨g11, h⟩ := h
      refine V_iald sh_76 (by decide) g11 dX12_price_28 ?_
      refine V_istore_n (L' := [(3, .int (gI (σ7 76 v1.toNat))), (0, .ref (cxA X 69)), (1, .int (gI v1)), (2, .int (gI v2))]) rfl (by decide) rfl dX12_price_29 ?_
      refine V_aload_n 1 rfl rfl dX12_price_30 ?_
      refine V_getR (f := 7) ci_X12 sh_69 rfl (by decide) (c1 := 76) rfl dX12_price_31 lk_RX12_f28 ?_
      refine V_iload_n 2 rfl rfl dX12_price_34 ?_
      refine V_iload_n 3 rfl rfl dX12_price_35 ?_
      obtain ⟨g12, h⟩ := h
      obtain ⟨g13, h⟩ := h
      refine V_iast sh_76 (by decide) g12 g13 dX12_price_36 ?_
      refine V_iload_n 0 rfl rfl dX12_price_37 ?_
      exact V_iret rfl (fun _ q => by cases q) (vp_nar_int _) dX12_price_38 h
    · have h := h.2 q10
      refine V_bipush (v := -3) (by decide) dX12_price_20 ?_
      exact V_iret rfl (fun _ q => by cases q) (vp_nar_int _) dX12_price_22 h
theorem eX12_price {X : Cx} {v1 : Int} {v2 : Int} {σ : Sg} {Q : Int → Sg → Prop} (h : GX12_price_0 X v1 v2 σ Q) : KX12_price X v1 v2 σ Q := V_enter (by decide) (Nat.le_of_ble_eq_true rfl) rfl h
def GX12_write_0 (X : Cx) (w1 : Int) (v3 : Int) (σ : Sg) (Q : Int → Sg → Prop) : Prop := VV X mX12_write 0 [(0, .ref (cxA X 69)), (1, .long (gJ w1)), (3, .int (gI v3))] [] σ Q
def GX12_write_31 (X : Cx) (w1 : Int) (v3 : Int) (v4 : Int) (σ : Sg) (Q : Int → Sg → Prop) : Prop := VV X mX12_write 31 [(0, .ref (cxA X 69)), (1, .long (gJ w1)), (3, .int (gI v3)), (4, .int (gI v4))] [] σ Q
set_option maxHeartbeats 2000000 in
set_option maxRecDepth 20000 in
theorem rX12_write_0 {X : Cx} {w1 : Int} {v3 : Int} {σ : Sg} {Q : Int → Sg → Prop} (h : Rng σ → KX12_in X v3 1 8 σ (fun r1 σ2 => Rng σ2 → (inI r1) ∧ ((¬ r1 = 0 → (inI ((σ2 69 8) + v3)) ∧ ((((σ2 69 8) + v3) ≤ 160 → GX12_write_31 X w1 v3 0 σ2 Q) ∧ (160 < ((σ2 69 8) + v3) → Q ((-5)) σ2))) ∧ (r1 = 0 → Q ((-3)) σ2)))) : GX12_write_0 X w1 v3 σ Q := by
  unfold GX12_write_0
  refine V_rng (fun hR0 => ?_)
  have h := h hR0
  refine V_iload_n 2 rfl rfl dX12_write_0 ?_
  refine V_iconst dX12_write_1 ?_
  refine V_bipush (v := 8) (by decide) dX12_write_2 ?_
  refine V_cS (M' := mX12_in) (As := [.int (gI v3), .int (gI 1), .int (gI 8)]) (fun r => [.int (gI r)]) ok_X12_in ok2_X12_in rfl rfl (Nat.le_of_ble_eq_true rfl) dX12_write_4 lk_RX12_m102 (by decide) (fun _ => rfl) h (fun r1 σ2 h => ?_)
  refine V_rng (fun hR3 => ?_)
  have h := h hR3
  obtain ⟨g4, h⟩ := h
  refine V_if_ne (tgt := 13) dX12_write_7 (by decide) g4 (fun q5 => ?_) (fun q5 => ?_)
  · have h := h.1 q5
    refine V_aload_n 0 rfl rfl dX12_write_13 ?_
    refine V_getI (f := 8) ci_X12 sh_69 rfl (by decide) dX12_write_14 lk_RX12_f121 ?_
    refine V_iload_n 2 rfl rfl dX12_write_17 ?_
    refine V_iadd dX12_write_18 ?_
    refine V_sipush (v := 160) (by decide) dX12_write_19 ?_
    obtain ⟨g6, h⟩ := h
    refine V_icmp_le (tgt := 28) dX12_write_22 (by decide) g6 (by decide) (fun q7 => ?_) (fun q7 => ?_)
    · have h := h.1 q7
      refine V_iconst dX12_write_28 ?_
      refine V_istore (L' := [(4, .int (gI 0)), (0, .ref (cxA X 69)), (1, .long (gJ w1)), (3, .int (gI v3))]) (by decide) rfl dX12_write_29 ?_
      exact V_sub [1, 2, 3, 0] rfl h
    · have h := h.2 q7
      refine V_bipush (v := -5) (by decide) dX12_write_25 ?_
      exact V_iret rfl (fun _ q => by cases q) (vp_nar_int _) dX12_write_27 h
  · have h := h.2 q5
    refine V_bipush (v := -3) (by decide) dX12_write_10 ?_
    exact V_iret rfl (fun _ q => by cases q) (vp_nar_int _) dX12_write_12 h
set_option maxHeartbeats 2000000 in
set_option maxRecDepth 20000 in
theorem rX12_write_31 {X : Cx} {w1 : Int} {v3 : Int} {v4 : Int} {σ : Sg} {Q : Int → Sg → Prop} (h : Rng σ → (inI v4) ∧ (inI v3) ∧ ((v3 ≤ v4 → (inI ((σ 69 8) + v3)) ∧ Q ((σ 69 8) + v3) (up2 σ 69 8 ((σ 69 8) + v3))) ∧ (v4 < v3 → (0 ≤ (σ 69 8) + v4 ∧ (σ 69 8) + v4 < 160) ∧ GX12_write_31 X w1 v3 (v4 + 1) (up2 σ 77 (((σ 69 8) + v4).toNat) (jtoi (jand (jshr w1 (8 * v4)) 255))) Q))) : GX12_write_31 X w1 v3 v4 σ Q := by
  unfold GX12_write_31
  refine V_rng (fun hR0 => ?_)
  have h := h hR0
  refine V_iload 3 rfl dX12_write_31 ?_
  refine V_iload_n 2 rfl rfl dX12_write_33 ?_
  obtain ⟨g1, h⟩ := h
  obtain ⟨g2, h⟩ := h
  refine V_icmp_ge (tgt := 67) dX12_write_34 (by decide) g1 g2 (fun q3 => ?_) (fun q3 => ?_)
  · have h := h.1 q3
    refine V_aload_n 0 rfl rfl dX12_write_67 ?_
    refine V_dup rfl dX12_write_68 ?_
    refine V_getI (f := 8) ci_X12 sh_69 rfl (by decide) dX12_write_69 lk_RX12_f121 ?_
    refine V_iload_n 2 rfl rfl dX12_write_72 ?_
    refine V_iadd dX12_write_73 ?_
    obtain ⟨g4, h⟩ := h
    refine V_putI (f := 8) ci_X12 sh_69 rfl (by decide) rfl rfl g4 dX12_write_74 lk_RX12_f121 ?_
    refine V_aload_n 0 rfl rfl dX12_write_77 ?_
    refine V_getI (f := 8) ci_X12 sh_69 rfl (by decide) dX12_write_78 lk_RX12_f121 ?_
    exact V_iret rfl (fun _ q => by cases q) (vp_nar_int _) dX12_write_81 h
  · have h := h.2 q3
    refine V_aload_n 0 rfl rfl dX12_write_37 ?_
    refine V_getR (f := 9) ci_X12 sh_69 rfl (by decide) (c1 := 77) rfl dX12_write_38 lk_RX12_f31 ?_
    refine V_aload_n 0 rfl rfl dX12_write_41 ?_
    refine V_getI (f := 8) ci_X12 sh_69 rfl (by decide) dX12_write_42 lk_RX12_f121 ?_
    refine V_iload 3 rfl dX12_write_45 ?_
    refine V_iadd dX12_write_47 ?_
    refine V_lload_n 1 rfl rfl dX12_write_48 ?_
    refine V_bipush (v := 8) (by decide) dX12_write_49 ?_
    refine V_iload 3 rfl dX12_write_51 ?_
    refine V_imul dX12_write_53 ?_
    refine V_lshr dX12_write_54 ?_
    refine V_ldc2 (x := (255)) dX12_write_55 lk_RX12_l124 (by decide) ?_
    refine V_land dX12_write_58 ?_
    refine V_l2i dX12_write_59 ?_
    obtain ⟨g5, h⟩ := h
    refine V_iast sh_77 (by decide) g5 (inI_z _) dX12_write_60 ?_
    refine V_iinc (L' := [(4, .int (gI (v4 + 1))), (0, .ref (cxA X 69)), (1, .long (gJ w1)), (3, .int (gI v3))]) 3 rfl (by decide) rfl dX12_write_61 ?_
    refine V_goto (tgt := 31) dX12_write_64 (by decide) ?_
    exact V_sub [1, 2, 3, 0] rfl h
theorem eX12_write {X : Cx} {w1 : Int} {v3 : Int} {σ : Sg} {Q : Int → Sg → Prop} (h : GX12_write_0 X w1 v3 σ Q) : KX12_write X w1 v3 σ Q := V_enter (by decide) (Nat.le_of_ble_eq_true rfl) rfl h
def GX12_erase_0 (X : Cx) (σ : Sg) (Q : Int → Sg → Prop) : Prop := VV X mX12_erase 0 [(0, .ref (cxA X 69))] [] σ Q
set_option maxHeartbeats 2000000 in
set_option maxRecDepth 20000 in
theorem rX12_erase_0 {X : Cx} {σ : Sg} {Q : Int → Sg → Prop} (h : Rng σ → Q (σ 69 8) (up2 σ 69 8 0)) : GX12_erase_0 X σ Q := by
  unfold GX12_erase_0
  refine V_rng (fun hR0 => ?_)
  have h := h hR0
  refine V_aload_n 0 rfl rfl dX12_erase_0 ?_
  refine V_getI (f := 8) ci_X12 sh_69 rfl (by decide) dX12_erase_1 lk_RX12_f121 ?_
  refine V_istore_n (L' := [(1, .int (gI (σ 69 8))), (0, .ref (cxA X 69))]) rfl (by decide) rfl dX12_erase_4 ?_
  refine V_aload_n 1 rfl rfl dX12_erase_5 ?_
  refine V_iconst dX12_erase_6 ?_
  refine V_putI (f := 8) ci_X12 sh_69 rfl (by decide) rfl rfl (by decide) dX12_erase_7 lk_RX12_f121 ?_
  refine V_iload_n 0 rfl rfl dX12_erase_10 ?_
  exact V_iret rfl (fun _ q => by cases q) (vp_nar_int _) dX12_erase_11 h
theorem eX12_erase {X : Cx} {σ : Sg} {Q : Int → Sg → Prop} (h : GX12_erase_0 X σ Q) : KX12_erase X σ Q := V_enter (by decide) (Nat.le_of_ble_eq_true rfl) rfl h
def GX12_nextToken_0 (X : Cx) (σ : Sg) (Q : Int → Sg → Prop) : Prop := VV X mX12_nextToken 0 [(0, .ref (cxA X 69))] [] σ Q
def GX12_nextToken_38 (X : Cx) (σ : Sg) (Q : Int → Sg → Prop) : Prop := VV X mX12_nextToken 38 [(0, .ref (cxA X 69))] [] σ Q
def GX12_nextToken_101 (X : Cx) (σ : Sg) (Q : Int → Sg → Prop) : Prop := VV X mX12_nextToken 101 [(0, .ref (cxA X 69))] [] σ Q
def GX12_nextToken_175 (X : Cx) (ws0 : Int) (σ : Sg) (Q : Int → Sg → Prop) : Prop := VV X mX12_nextToken 175 [(0, .ref (cxA X 69))] [.long (gJ ws0), .ref (cxA X 69)] σ Q
def GX12_nextToken_191 (X : Cx) (σ : Sg) (Q : Int → Sg → Prop) : Prop := VV X mX12_nextToken 191 [(0, .ref (cxA X 69))] [] σ Q
def GX12_nextToken_241 (X : Cx) (σ : Sg) (Q : Int → Sg → Prop) : Prop := VV X mX12_nextToken 241 [(0, .ref (cxA X 69))] [] σ Q
def GX12_nextToken_310 (X : Cx) (σ : Sg) (Q : Int → Sg → Prop) : Prop := VV X mX12_nextToken 310 [(0, .ref (cxA X 69))] [] σ Q
set_option maxHeartbeats 2000000 in
set_option maxRecDepth 20000 in
theorem rX12_nextToken_0 {X : Cx} {σ : Sg} {Q : Int → Sg → Prop} (h : Rng σ → (((σ 69 8) ≤ (σ 69 10) → GX12_nextToken_38 X σ Q) ∧ ((σ 69 10) < (σ 69 8) → (0 ≤ σ 69 10 ∧ σ 69 10 < 160) ∧ ((¬ (σ 77 ((σ 69 10).toNat)) = 32 → GX12_nextToken_38 X σ Q) ∧ ((σ 77 ((σ 69 10).toNat)) = 32 → (inI ((σ 69 10) + 1)) ∧ GX12_nextToken_0 X (up2 σ 69 10 ((σ 69 10) + 1)) Q))))) : GX12_nextToken_0 X σ Q := by
  unfold GX12_nextToken_0
  refine V_rng (fun hR0 => ?_)
  have h := h hR0
  refine V_aload_n 0 rfl rfl dX12_nextToken_0 ?_
  refine V_getI (f := 10) ci_X12 sh_69 rfl (by decide) dX12_nextToken_1 lk_RX12_f126 ?_
  refine V_aload_n 0 rfl rfl dX12_nextToken_4 ?_
  refine V_getI (f := 8) ci_X12 sh_69 rfl (by decide) dX12_nextToken_5 lk_RX12_f121 ?_
  refine V_icmp_ge (tgt := 38) dX12_nextToken_8 (by decide) (show inI (σ 69 10) from (hR0.1 69 10 (by decide))) (show inI (σ 69 8) from (hR0.1 69 8 (by decide))) (fun q1 => ?_) (fun q1 => ?_)
  · have h := h.1 q1
    exact h
  · have h := h.2 q1
    refine V_aload_n 0 rfl rfl dX12_nextToken_11 ?_
    refine V_getR (f := 9) ci_X12 sh_69 rfl (by decide) (c1 := 77) rfl dX12_nextToken_12 lk_RX12_f31 ?_
    refine V_aload_n 0 rfl rfl dX12_nextToken_15 ?_
    refine V_getI (f := 10) ci_X12 sh_69 rfl (by decide) dX12_nextToken_16 lk_RX12_f126 ?_
    obtain ⟨g2, h⟩ := h
    refine V_iald sh_77 (by decide) g2 dX12_nextToken_19 ?_
    refine V_bipush (v := 32) (by decide) dX12_nextToken_20 ?_
    refine V_icmp_ne (tgt := 38) dX12_nextToken_22 (by decide) (show inI (σ 77 ((σ 69 10).toNat)) from (inI_sh hR0 sh_77 (by decide))) (by decide) (fun q3 => ?_) (fun q3 => ?_)
    · have h := h.1 q3
      exact h
    · have h := h.2 q3
      refine V_aload_n 0 rfl rfl dX12_nextToken_25 ?_
      refine V_dup rfl dX12_nextToken_26 ?_
      refine V_getI (f := 10) ci_X12 sh_69 rfl (by decide) dX12_nextToken_27 lk_RX12_f126 ?_
      refine V_iconst dX12_nextToken_30 ?_
      refine V_iadd dX12_nextToken_31 ?_
      obtain ⟨g4, h⟩ := h
      refine V_putI (f := 10) ci_X12 sh_69 rfl (by decide) rfl rfl g4 dX12_nextToken_32 lk_RX12_f126 ?_
      refine V_goto (tgt := 0) dX12_nextToken_35 (by decide) ?_
      exact h
set_option maxHeartbeats 2000000 in
set_option maxRecDepth 20000 in
theorem rX12_nextToken_38 {X : Cx} {σ : Sg} {Q : Int → Sg → Prop} (h : Rng σ → ((¬ (σ 69 10) = (σ 69 8) → (0 ≤ σ 69 10 ∧ σ 69 10 < 160) ∧ KX12_in X (σ 77 ((σ 69 10).toNat)) 97 122 (up2 (up2 (up2 σ 69 11 (σ 69 10)) 69 13 0) 69 14 0) (fun r3 σ4 => Rng σ4 → (inI r3) ∧ ((r3 = 0 → (0 ≤ σ4 69 10 ∧ σ4 69 10 < 160) ∧ KX12_in X (σ4 77 ((σ4 69 10).toNat)) 48 57 σ4 (fun r9 σ10 => Rng σ10 → (inI r9) ∧ ((r9 = 0 → (inI ((σ10 69 10) + 1)) ∧ Q 0 (up2 (up2 σ10 69 12 ((-4))) 69 10 ((σ10 69 10) + 1))) ∧ (¬ r9 = 0 → GX12_nextToken_241 X σ10 Q)))) ∧ (¬ r3 = 0 → GX12_nextToken_101 X (up2 σ4 69 12 0) Q)))) ∧ ((σ 69 10) = (σ 69 8) → Q 0 (up2 (up2 (up2 (up2 σ 69 11 (σ 69 10)) 69 13 0) 69 14 0) 69 12 ((-2)))))) : GX12_nextToken_38 X σ Q := by
  unfold GX12_nextToken_38
  refine V_rng (fun hR0 => ?_)
  have h := h hR0
  refine V_aload_n 0 rfl rfl dX12_nextToken_38 ?_
  refine V_aload_n 0 rfl rfl dX12_nextToken_39 ?_
  refine V_getI (f := 10) ci_X12 sh_69 rfl (by decide) dX12_nextToken_40 lk_RX12_f126 ?_
  refine V_putI (f := 11) ci_X12 sh_69 rfl (by decide) rfl rfl (show inI (σ 69 10) from (hR0.1 69 10 (by decide))) dX12_nextToken_43 lk_RX12_f129 ?_
  refine V_aload_n 0 rfl rfl dX12_nextToken_46 ?_
  refine V_iconst dX12_nextToken_47 ?_
  refine V_putI (f := 13) ci_X12 sh_69 rfl (by decide) rfl rfl (by decide) dX12_nextToken_48 lk_RX12_f132 ?_
  refine V_aload_n 0 rfl rfl dX12_nextToken_51 ?_
  refine V_iconst dX12_nextToken_52 ?_
  refine V_putI (f := 14) ci_X12 sh_69 rfl (by decide) rfl rfl (by decide) dX12_nextToken_53 lk_RX12_f135 ?_
  refine V_aload_n 0 rfl rfl dX12_nextToken_56 ?_
  refine V_getI (f := 10) ci_X12 sh_69 rfl (by decide) dX12_nextToken_57 lk_RX12_f126 ?_
  refine V_aload_n 0 rfl rfl dX12_nextToken_60 ?_
  refine V_getI (f := 8) ci_X12 sh_69 rfl (by decide) dX12_nextToken_61 lk_RX12_f121 ?_
  refine V_icmp_ne (tgt := 77) dX12_nextToken_64 (by decide) (show inI (σ 69 10) from (hR0.1 69 10 (by decide))) (show inI (σ 69 8) from (hR0.1 69 8 (by decide))) (fun q1 => ?_) (fun q1 => ?_)
  · have h := h.1 q1
    refine V_aload_n 0 rfl rfl dX12_nextToken_77 ?_
    refine V_getR (f := 9) ci_X12 sh_69 rfl (by decide) (c1 := 77) rfl dX12_nextToken_78 lk_RX12_f31 ?_
    refine V_aload_n 0 rfl rfl dX12_nextToken_81 ?_
    refine V_getI (f := 10) ci_X12 sh_69 rfl (by decide) dX12_nextToken_82 lk_RX12_f126 ?_
    obtain ⟨g2, h⟩ := h
    refine V_iald sh_77 (by decide) g2 dX12_nextToken_85 ?_
    refine V_bipush (v := 97) (by decide) dX12_nextToken_86 ?_
    refine V_bipush (v := 122) (by decide) dX12_nextToken_88 ?_
    refine V_cS (M' := mX12_in) (As := [.int (gI (σ 77 ((σ 69 10).toNat))), .int (gI 97), .int (gI 122)]) (fun r => [.int (gI r)]) ok_X12_in ok2_X12_in rfl rfl (Nat.le_of_ble_eq_true rfl) dX12_nextToken_90 lk_RX12_m102 (by decide) (fun _ => rfl) h (fun r3 σ4 h => ?_)
    refine V_rng (fun hR5 => ?_)
    have h := h hR5
    obtain ⟨g6, h⟩ := h
    refine V_if_eq (tgt := 222) dX12_nextToken_93 (by decide) g6 (fun q7 => ?_) (fun q7 => ?_)
    · have h := h.1 q7
      refine V_aload_n 0 rfl rfl dX12_nextToken_222 ?_
      refine V_getR (f := 9) ci_X12 sh_69 rfl (by decide) (c1 := 77) rfl dX12_nextToken_223 lk_RX12_f31 ?_
      refine V_aload_n 0 rfl rfl dX12_nextToken_226 ?_
      refine V_getI (f := 10) ci_X12 sh_69 rfl (by decide) dX12_nextToken_227 lk_RX12_f126 ?_
      obtain ⟨g8, h⟩ := h
      refine V_iald sh_77 (by decide) g8 dX12_nextToken_230 ?_
      refine V_bipush (v := 48) (by decide) dX12_nextToken_231 ?_
      refine V_bipush (v := 57) (by decide) dX12_nextToken_233 ?_
      refine V_cS (M' := mX12_in) (As := [.int (gI (σ4 77 ((σ4 69 10).toNat))), .int (gI 48), .int (gI 57)]) (fun r => [.int (gI r)]) ok_X12_in ok2_X12_in rfl rfl (Nat.le_of_ble_eq_true rfl) dX12_nextToken_235 lk_RX12_m102 (by decide) (fun _ => rfl) h (fun r9 σ10 h => ?_)
      refine V_rng (fun hR11 => ?_)
      have h := h hR11
      obtain ⟨g12, h⟩ := h
      refine V_if_eq (tgt := 334) dX12_nextToken_238 (by decide) g12 (fun q13 => ?_) (fun q13 => ?_)
      · have h := h.1 q13
        refine V_aload_n 0 rfl rfl dX12_nextToken_334 ?_
        refine V_ldc2 (x := (-4)) dX12_nextToken_335 lk_RX12_l148 (by decide) ?_
        refine V_putJ (f := 12) ci_X12 sh_69 rfl (by decide) rfl rfl (by decide) ⟨rfl, rfl⟩ dX12_nextToken_338 lk_RX12_f140 ?_
        refine V_aload_n 0 rfl rfl dX12_nextToken_341 ?_
        refine V_dup rfl dX12_nextToken_342 ?_
        refine V_getI (f := 10) ci_X12 sh_69 rfl (by decide) dX12_nextToken_343 lk_RX12_f126 ?_
        refine V_iconst dX12_nextToken_346 ?_
        refine V_iadd dX12_nextToken_347 ?_
        obtain ⟨g14, h⟩ := h
        refine V_putI (f := 10) ci_X12 sh_69 rfl (by decide) rfl rfl g14 dX12_nextToken_348 lk_RX12_f126 ?_
        exact V_vret rfl dX12_nextToken_351 h
      · have h := h.2 q13
        exact h
    · have h := h.2 q7
      refine V_aload_n 0 rfl rfl dX12_nextToken_96 ?_
      refine V_lconst (v := 0) (by decide) dX12_nextToken_97 ?_
      refine V_putJ (f := 12) ci_X12 sh_69 rfl (by decide) rfl rfl (by decide) ⟨rfl, rfl⟩ dX12_nextToken_98 lk_RX12_f140 ?_
      exact h
  · have h := h.2 q1
    refine V_aload_n 0 rfl rfl dX12_nextToken_67 ?_
    refine V_ldc2 (x := (-2)) dX12_nextToken_68 lk_RX12_l138 (by decide) ?_
    refine V_putJ (f := 12) ci_X12 sh_69 rfl (by decide) rfl rfl (by decide) ⟨rfl, rfl⟩ dX12_nextToken_71 lk_RX12_f140 ?_
    refine V_goto (tgt := 351) dX12_nextToken_74 (by decide) ?_
    exact V_vret rfl dX12_nextToken_351 h
set_option maxHeartbeats 2000000 in
set_option maxRecDepth 20000 in
theorem rX12_nextToken_101 {X : Cx} {σ : Sg} {Q : Int → Sg → Prop} (h : Rng σ → (((σ 69 8) ≤ (σ 69 10) → GX12_nextToken_191 X σ Q) ∧ ((σ 69 10) < (σ 69 8) → (0 ≤ σ 69 10 ∧ σ 69 10 < 160) ∧ KX12_in X (σ 77 ((σ 69 10).toNat)) 97 122 σ (fun r3 σ4 => Rng σ4 → (inI r3) ∧ ((r3 = 0 → GX12_nextToken_191 X σ4 Q) ∧ (¬ r3 = 0 → (inI ((σ4 69 10) - (σ4 69 11))) ∧ ((9 ≤ ((σ4 69 10) - (σ4 69 11)) → GX12_nextToken_175 X ((-4)) σ4 Q) ∧ (((σ4 69 10) - (σ4 69 11)) < 9 → (0 ≤ σ4 69 10 ∧ σ4 69 10 < 160) ∧ GX12_nextToken_175 X (((27 * (σ4 69 12)) + (σ4 77 ((σ4 69 10).toNat))) - 96) σ4 Q)))))))) : GX12_nextToken_101 X σ Q := by
  unfold GX12_nextToken_101
  refine V_rng (fun hR0 => ?_)
  have h := h hR0
  refine V_aload_n 0 rfl rfl dX12_nextToken_101 ?_
  refine V_getI (f := 10) ci_X12 sh_69 rfl (by decide) dX12_nextToken_102 lk_RX12_f126 ?_
  refine V_aload_n 0 rfl rfl dX12_nextToken_105 ?_
  refine V_getI (f := 8) ci_X12 sh_69 rfl (by decide) dX12_nextToken_106 lk_RX12_f121 ?_
  refine V_icmp_ge (tgt := 191) dX12_nextToken_109 (by decide) (show inI (σ 69 10) from (hR0.1 69 10 (by decide))) (show inI (σ 69 8) from (hR0.1 69 8 (by decide))) (fun q1 => ?_) (fun q1 => ?_)
  · have h := h.1 q1
    exact h
  · have h := h.2 q1
    refine V_aload_n 0 rfl rfl dX12_nextToken_112 ?_
    refine V_getR (f := 9) ci_X12 sh_69 rfl (by decide) (c1 := 77) rfl dX12_nextToken_113 lk_RX12_f31 ?_
    refine V_aload_n 0 rfl rfl dX12_nextToken_116 ?_
    refine V_getI (f := 10) ci_X12 sh_69 rfl (by decide) dX12_nextToken_117 lk_RX12_f126 ?_
    obtain ⟨g2, h⟩ := h
    refine V_iald sh_77 (by decide) g2 dX12_nextToken_120 ?_
    refine V_bipush (v := 97) (by decide) dX12_nextToken_121 ?_
    refine V_bipush (v := 122) (by decide) dX12_nextToken_123 ?_
    refine V_cS (M' := mX12_in) (As := [.int (gI (σ 77 ((σ 69 10).toNat))), .int (gI 97), .int (gI 122)]) (fun r => [.int (gI r)]) ok_X12_in ok2_X12_in rfl rfl (Nat.le_of_ble_eq_true rfl) dX12_nextToken_125 lk_RX12_m102 (by decide) (fun _ => rfl) h (fun r3 σ4 h => ?_)
    refine V_rng (fun hR5 => ?_)
    have h := h hR5
    obtain ⟨g6, h⟩ := h
    refine V_if_eq (tgt := 191) dX12_nextToken_128 (by decide) g6 (fun q7 => ?_) (fun q7 => ?_)
    · have h := h.1 q7
      exact h
    · have h := h.2 q7
      refine V_aload_n 0 rfl rfl dX12_nextToken_131 ?_
      refine V_aload_n 0 rfl rfl dX12_nextToken_132 ?_
      refine V_getI (f := 10) ci_X12 sh_69 rfl (by decide) dX12_nextToken_133 lk_RX12_f126 ?_
      refine V_aload_n 0 rfl rfl dX12_nextToken_136 ?_
      refine V_getI (f := 11) ci_X12 sh_69 rfl (by decide) dX12_nextToken_137 lk_RX12_f129 ?_
      refine V_isub dX12_nextToken_140 ?_
      refine V_bipush (v := 9) (by decide) dX12_nextToken_141 ?_
      obtain ⟨g8, h⟩ := h
      refine V_icmp_ge (tgt := 172) dX12_nextToken_143 (by decide) g8 (by decide) (fun q9 => ?_) (fun q9 => ?_)
      · have h := h.1 q9
        refine V_ldc2 (x := (-4)) dX12_nextToken_172 lk_RX12_l148 (by decide) ?_
        exact h
      · have h := h.2 q9
        refine V_ldc2 (x := (27)) dX12_nextToken_146 lk_RX12_l144 (by decide) ?_
        refine V_aload_n 0 rfl rfl dX12_nextToken_149 ?_
        refine V_getJ (f := 12) ci_X12 sh_69 rfl (by decide) dX12_nextToken_150 lk_RX12_f140 ?_
        refine V_lmul dX12_nextToken_153 ?_
        refine V_aload_n 0 rfl rfl dX12_nextToken_154 ?_
        refine V_getR (f := 9) ci_X12 sh_69 rfl (by decide) (c1 := 77) rfl dX12_nextToken_155 lk_RX12_f31 ?_
        refine V_aload_n 0 rfl rfl dX12_nextToken_158 ?_
        refine V_getI (f := 10) ci_X12 sh_69 rfl (by decide) dX12_nextToken_159 lk_RX12_f126 ?_
        obtain ⟨g10, h⟩ := h
        refine V_iald sh_77 (by decide) g10 dX12_nextToken_162 ?_
        refine V_i2l (show inI (σ4 77 ((σ4 69 10).toNat)) from (inI_sh hR5 sh_77 (by decide))) dX12_nextToken_163 ?_
        refine V_ladd dX12_nextToken_164 ?_
        refine V_ldc2 (x := (96)) dX12_nextToken_165 lk_RX12_l146 (by decide) ?_
        refine V_lsub dX12_nextToken_168 ?_
        refine V_goto (tgt := 175) dX12_nextToken_169 (by decide) ?_
        exact h
set_option maxHeartbeats 2000000 in
set_option maxRecDepth 20000 in
theorem rX12_nextToken_175 {X : Cx} {ws0 : Int} {σ : Sg} {Q : Int → Sg → Prop} (h : Rng σ → (inJ ws0) ∧ (inI ((σ 69 10) + 1)) ∧ GX12_nextToken_101 X (up2 (up2 σ 69 12 ws0) 69 10 ((σ 69 10) + 1)) Q) : GX12_nextToken_175 X ws0 σ Q := by
  unfold GX12_nextToken_175
  refine V_rng (fun hR0 => ?_)
  have h := h hR0
  obtain ⟨g1, h⟩ := h
  refine V_putJ (f := 12) ci_X12 sh_69 rfl (by decide) rfl rfl g1 ⟨rfl, rfl⟩ dX12_nextToken_175 lk_RX12_f140 ?_
  refine V_aload_n 0 rfl rfl dX12_nextToken_178 ?_
  refine V_dup rfl dX12_nextToken_179 ?_
  refine V_getI (f := 10) ci_X12 sh_69 rfl (by decide) dX12_nextToken_180 lk_RX12_f126 ?_
  refine V_iconst dX12_nextToken_183 ?_
  refine V_iadd dX12_nextToken_184 ?_
  obtain ⟨g2, h⟩ := h
  refine V_putI (f := 10) ci_X12 sh_69 rfl (by decide) rfl rfl g2 dX12_nextToken_185 lk_RX12_f126 ?_
  refine V_goto (tgt := 101) dX12_nextToken_188 (by decide) ?_
  exact h
set_option maxHeartbeats 2000000 in
set_option maxRecDepth 20000 in
theorem rX12_nextToken_191 {X : Cx} {σ : Sg} {Q : Int → Sg → Prop} (h : Rng σ → (inI ((σ 69 10) - (σ 69 11))) ∧ ((((σ 69 10) - (σ 69 11)) ≤ 9 → Q 0 (up2 σ 69 12 (σ 69 12))) ∧ (9 < ((σ 69 10) - (σ 69 11)) → Q 0 (up2 σ 69 12 ((-4)))))) : GX12_nextToken_191 X σ Q := by
  unfold GX12_nextToken_191
  refine V_rng (fun hR0 => ?_)
  have h := h hR0
  refine V_aload_n 0 rfl rfl dX12_nextToken_191 ?_
  refine V_aload_n 0 rfl rfl dX12_nextToken_192 ?_
  refine V_getI (f := 10) ci_X12 sh_69 rfl (by decide) dX12_nextToken_193 lk_RX12_f126 ?_
  refine V_aload_n 0 rfl rfl dX12_nextToken_196 ?_
  refine V_getI (f := 11) ci_X12 sh_69 rfl (by decide) dX12_nextToken_197 lk_RX12_f129 ?_
  refine V_isub dX12_nextToken_200 ?_
  refine V_bipush (v := 9) (by decide) dX12_nextToken_201 ?_
  obtain ⟨g1, h⟩ := h
  refine V_icmp_le (tgt := 212) dX12_nextToken_203 (by decide) g1 (by decide) (fun q2 => ?_) (fun q2 => ?_)
  · have h := h.1 q2
    refine V_aload_n 0 rfl rfl dX12_nextToken_212 ?_
    refine V_getJ (f := 12) ci_X12 sh_69 rfl (by decide) dX12_nextToken_213 lk_RX12_f140 ?_
    refine V_putJ (f := 12) ci_X12 sh_69 rfl (by decide) rfl rfl hR0.2 ⟨rfl, rfl⟩ dX12_nextToken_216 lk_RX12_f140 ?_
    refine V_goto (tgt := 351) dX12_nextToken_219 (by decide) ?_
    exact V_vret rfl dX12_nextToken_351 h
  · have h := h.2 q2
    refine V_ldc2 (x := (-4)) dX12_nextToken_206 lk_RX12_l148 (by decide) ?_
    refine V_goto (tgt := 216) dX12_nextToken_209 (by decide) ?_
    refine V_putJ (f := 12) ci_X12 sh_69 rfl (by decide) rfl rfl (by decide) ⟨rfl, rfl⟩ dX12_nextToken_216 lk_RX12_f140 ?_
    refine V_goto (tgt := 351) dX12_nextToken_219 (by decide) ?_
    exact V_vret rfl dX12_nextToken_351 h
set_option maxHeartbeats 2000000 in
set_option maxRecDepth 20000 in
theorem rX12_nextToken_241 {X : Cx} {σ : Sg} {Q : Int → Sg → Prop} (h : Rng σ → (((σ 69 8) ≤ (σ 69 10) → GX12_nextToken_310 X σ Q) ∧ ((σ 69 10) < (σ 69 8) → (0 ≤ σ 69 10 ∧ σ 69 10 < 160) ∧ KX12_in X (σ 77 ((σ 69 10).toNat)) 48 57 σ (fun r3 σ4 => Rng σ4 → (inI r3) ∧ ((r3 = 0 → GX12_nextToken_310 X σ4 Q) ∧ (¬ r3 = 0 → (0 ≤ σ4 69 10 ∧ σ4 69 10 < 160) ∧ (inI ((σ4 77 ((σ4 69 10).toNat)) - 48)) ∧ (inI ((σ4 69 13) + 1)) ∧ (inI ((σ4 69 10) + 1)) ∧ GX12_nextToken_241 X (up2 (up2 (up2 σ4 69 14 ((σ4 77 ((σ4 69 10).toNat)) - 48)) 69 13 ((σ4 69 13) + 1)) 69 10 ((σ4 69 10) + 1)) Q)))))) : GX12_nextToken_241 X σ Q := by
  unfold GX12_nextToken_241
  refine V_rng (fun hR0 => ?_)
  have h := h hR0
  refine V_aload_n 0 rfl rfl dX12_nextToken_241 ?_
  refine V_getI (f := 10) ci_X12 sh_69 rfl (by decide) dX12_nextToken_242 lk_RX12_f126 ?_
  refine V_aload_n 0 rfl rfl dX12_nextToken_245 ?_
  refine V_getI (f := 8) ci_X12 sh_69 rfl (by decide) dX12_nextToken_246 lk_RX12_f121 ?_
  refine V_icmp_ge (tgt := 310) dX12_nextToken_249 (by decide) (show inI (σ 69 10) from (hR0.1 69 10 (by decide))) (show inI (σ 69 8) from (hR0.1 69 8 (by decide))) (fun q1 => ?_) (fun q1 => ?_)
  · have h := h.1 q1
    exact h
  · have h := h.2 q1
    refine V_aload_n 0 rfl rfl dX12_nextToken_252 ?_
    refine V_getR (f := 9) ci_X12 sh_69 rfl (by decide) (c1 := 77) rfl dX12_nextToken_253 lk_RX12_f31 ?_
    refine V_aload_n 0 rfl rfl dX12_nextToken_256 ?_
    refine V_getI (f := 10) ci_X12 sh_69 rfl (by decide) dX12_nextToken_257 lk_RX12_f126 ?_
    obtain ⟨g2, h⟩ := h
    refine V_iald sh_77 (by decide) g2 dX12_nextToken_260 ?_
    refine V_bipush (v := 48) (by decide) dX12_nextToken_261 ?_
    refine V_bipush (v := 57) (by decide) dX12_nextToken_263 ?_
    refine V_cS (M' := mX12_in) (As := [.int (gI (σ 77 ((σ 69 10).toNat))), .int (gI 48), .int (gI 57)]) (fun r => [.int (gI r)]) ok_X12_in ok2_X12_in rfl rfl (Nat.le_of_ble_eq_true rfl) dX12_nextToken_265 lk_RX12_m102 (by decide) (fun _ => rfl) h (fun r3 σ4 h => ?_)
    refine V_rng (fun hR5 => ?_)
    have h := h hR5
    obtain ⟨g6, h⟩ := h
    refine V_if_eq (tgt := 310) dX12_nextToken_268 (by decide) g6 (fun q7 => ?_) (fun q7 => ?_)
    · have h := h.1 q7
      exact h
    · have h := h.2 q7
      refine V_aload_n 0 rfl rfl dX12_nextToken_271 ?_
      refine V_aload_n 0 rfl rfl dX12_nextToken_272 ?_
      refine V_getR (f := 9) ci_X12 sh_69 rfl (by decide) (c1 := 77) rfl dX12_nextToken_273 lk_RX12_f31 ?_
      refine V_aload_n 0 rfl rfl dX12_nextToken_276 ?_
      refine V_getI (f := 10) ci_X12 sh_69 rfl (by decide) dX12_nextToken_277 lk_RX12_f126 ?_
      obtain ⟨g8, h⟩ := h
      refine V_iald sh_77 (by decide) g8 dX12_nextToken_280 ?_
      refine V_bipush (v := 48) (by decide) dX12_nextToken_281 ?_
      refine V_isub dX12_nextToken_283 ?_
      obtain ⟨g9, h⟩ := h
      refine V_putI (f := 14) ci_X12 sh_69 rfl (by decide) rfl rfl g9 dX12_nextToken_284 lk_RX12_f135 ?_
      refine V_aload_n 0 rfl rfl dX12_nextToken_287 ?_
      refine V_dup rfl dX12_nextToken_288 ?_
      refine V_getI (f := 13) ci_X12 sh_69 rfl (by decide) dX12_nextToken_289 lk_RX12_f132 ?_
      refine V_iconst dX12_nextToken_292 ?_
      refine V_iadd dX12_nextToken_293 ?_
      obtain ⟨g10, h⟩ := h
      refine V_putI (f := 13) ci_X12 sh_69 rfl (by decide) rfl rfl g10 dX12_nextToken_294 lk_RX12_f132 ?_
      refine V_aload_n 0 rfl rfl dX12_nextToken_297 ?_
      refine V_dup rfl dX12_nextToken_298 ?_
      refine V_getI (f := 10) ci_X12 sh_69 rfl (by decide) dX12_nextToken_299 lk_RX12_f126 ?_
      refine V_iconst dX12_nextToken_302 ?_
      refine V_iadd dX12_nextToken_303 ?_
      obtain ⟨g11, h⟩ := h
      refine V_putI (f := 10) ci_X12 sh_69 rfl (by decide) rfl rfl g11 dX12_nextToken_304 lk_RX12_f126 ?_
      refine V_goto (tgt := 241) dX12_nextToken_307 (by decide) ?_
      exact h
set_option maxHeartbeats 2000000 in
set_option maxRecDepth 20000 in
theorem rX12_nextToken_310 {X : Cx} {σ : Sg} {Q : Int → Sg → Prop} (h : Rng σ → (((σ 69 13) ≤ 1 → Q 0 (up2 σ 69 12 ((-1)))) ∧ (1 < (σ 69 13) → Q 0 (up2 σ 69 12 ((-4)))))) : GX12_nextToken_310 X σ Q := by
  unfold GX12_nextToken_310
  refine V_rng (fun hR0 => ?_)
  have h := h hR0
  refine V_aload_n 0 rfl rfl dX12_nextToken_310 ?_
  refine V_aload_n 0 rfl rfl dX12_nextToken_311 ?_
  refine V_getI (f := 13) ci_X12 sh_69 rfl (by decide) dX12_nextToken_312 lk_RX12_f132 ?_
  refine V_iconst dX12_nextToken_315 ?_
  refine V_icmp_le (tgt := 325) dX12_nextToken_316 (by decide) (show inI (σ 69 13) from (hR0.1 69 13 (by decide))) (by decide) (fun q1 => ?_) (fun q1 => ?_)
  · have h := h.1 q1
    refine V_ldc2 (x := (-1)) dX12_nextToken_325 lk_RX12_l150 (by decide) ?_
    refine V_putJ (f := 12) ci_X12 sh_69 rfl (by decide) rfl rfl (by decide) ⟨rfl, rfl⟩ dX12_nextToken_328 lk_RX12_f140 ?_
    refine V_goto (tgt := 351) dX12_nextToken_331 (by decide) ?_
    exact V_vret rfl dX12_nextToken_351 h
  · have h := h.2 q1
    refine V_ldc2 (x := (-4)) dX12_nextToken_319 lk_RX12_l148 (by decide) ?_
    refine V_goto (tgt := 328) dX12_nextToken_322 (by decide) ?_
    refine V_putJ (f := 12) ci_X12 sh_69 rfl (by decide) rfl rfl (by decide) ⟨rfl, rfl⟩ dX12_nextToken_328 lk_RX12_f140 ?_
    refine V_goto (tgt := 351) dX12_nextToken_331 (by decide) ?_
    exact V_vret rfl dX12_nextToken_351 h
theorem eX12_nextToken {X : Cx} {σ : Sg} {Q : Int → Sg → Prop} (h : GX12_nextToken_0 X σ Q) : KX12_nextToken X σ Q := V_enter (by decide) (Nat.le_of_ble_eq_true rfl) rfl h
def GX12_fails_0 (X : Cx) (σ : Sg) (Q : Int → Sg → Prop) : Prop := VV X mX12_fails 0 [(0, .ref (cxA X 69))] [] σ Q
set_option maxHeartbeats 2000000 in
set_option maxRecDepth 20000 in
theorem rX12_fails_0 {X : Cx} {σ : Sg} {Q : Int → Sg → Prop} (h : Rng σ → Q 0 (up2 σ 69 15 (σ 69 11))) : GX12_fails_0 X σ Q := by
  unfold GX12_fails_0
  refine V_rng (fun hR0 => ?_)
  have h := h hR0
  refine V_aload_n 0 rfl rfl dX12_fails_0 ?_
  refine V_aload_n 0 rfl rfl dX12_fails_1 ?_
  refine V_getI (f := 11) ci_X12 sh_69 rfl (by decide) dX12_fails_2 lk_RX12_f129 ?_
  refine V_putI (f := 15) ci_X12 sh_69 rfl (by decide) rfl rfl (show inI (σ 69 11) from (hR0.1 69 11 (by decide))) dX12_fails_5 lk_RX12_f152 ?_
  refine V_iconst dX12_fails_8 ?_
  exact V_iret rfl (fun _ q => by cases q) (by decide) dX12_fails_9 h
theorem eX12_fails {X : Cx} {σ : Sg} {Q : Int → Sg → Prop} (h : GX12_fails_0 X σ Q) : KX12_fails X σ Q := V_enter (by decide) (Nat.le_of_ble_eq_true rfl) rfl h
def GX12_wordTold_0 (X : Cx) (σ : Sg) (Q : Int → Sg → Prop) : Prop := VV X mX12_wordTold 0 [(0, .ref (cxA X 69))] [] σ Q
def GX12_wordTold_104 (X : Cx) (w1 : Int) (s0 : Int) (σ : Sg) (Q : Int → Sg → Prop) : Prop := VV X mX12_wordTold 104 [(0, .ref (cxA X 69)), (1, .long (gJ w1))] [.int (gI s0)] σ Q
def GX12_wordTold_197 (X : Cx) (w1 : Int) (v3 : Int) (s0 : Int) (σ : Sg) (Q : Int → Sg → Prop) : Prop := VV X mX12_wordTold 197 [(0, .ref (cxA X 69)), (1, .long (gJ w1)), (3, .int (gI v3))] [.int (gI s0)] σ Q
set_option maxHeartbeats 2000000 in
set_option maxRecDepth 20000 in
theorem rX12_wordTold_0 {X : Cx} {σ : Sg} {Q : Int → Sg → Prop} (h : Rng σ → ((¬ (jcmp (σ 69 12) 1065) = 0 → ((¬ (jcmp (σ 69 12) 223456) = 0 → ((¬ (jcmp (σ 69 12) 51266052) = 0 → ((¬ (jcmp (σ 69 12) 257105) = 0 → ((¬ (jcmp (σ 69 12) 10631) = 0 → ((¬ (jcmp (σ 69 12) 1111) = 0 → ((¬ (jcmp (σ 69 12) 423) = 0 → ((¬ (jcmp (σ 69 12) 2045) = 0 → GX12_wordTold_104 X (σ 69 12) ((-1)) σ Q) ∧ ((jcmp (σ 69 12) 2045) = 0 → GX12_wordTold_104 X (σ 69 12) 7 σ Q))) ∧ ((jcmp (σ 69 12) 423) = 0 → GX12_wordTold_104 X (σ 69 12) 6 σ Q))) ∧ ((jcmp (σ 69 12) 1111) = 0 → GX12_wordTold_104 X (σ 69 12) 5 σ Q))) ∧ ((jcmp (σ 69 12) 10631) = 0 → GX12_wordTold_104 X (σ 69 12) 4 σ Q))) ∧ ((jcmp (σ 69 12) 257105) = 0 → GX12_wordTold_104 X (σ 69 12) 3 σ Q))) ∧ ((jcmp (σ 69 12) 51266052) = 0 → GX12_wordTold_104 X (σ 69 12) 2 σ Q))) ∧ ((jcmp (σ 69 12) 223456) = 0 → GX12_wordTold_104 X (σ 69 12) 1 σ Q))) ∧ ((jcmp (σ 69 12) 1065) = 0 → GX12_wordTold_104 X (σ 69 12) 0 σ Q))) : GX12_wordTold_0 X σ Q := by
  unfold GX12_wordTold_0
  refine V_rng (fun hR0 => ?_)
  have h := h hR0
  refine V_aload_n 0 rfl rfl dX12_wordTold_0 ?_
  refine V_getJ (f := 12) ci_X12 sh_69 rfl (by decide) dX12_wordTold_1 lk_RX12_f140 ?_
  refine V_lstore_n (L' := [(1, .long (gJ (σ 69 12))), (0, .ref (cxA X 69))]) rfl (by decide) rfl dX12_wordTold_4 ?_
  refine V_lload_n 0 rfl rfl dX12_wordTold_5 ?_
  refine V_ldc2 (x := (1065)) dX12_wordTold_6 lk_RX12_l155 (by decide) ?_
  refine V_lcmp hR0.2 (by decide) dX12_wordTold_9 ?_
  refine V_if_ne (tgt := 17) dX12_wordTold_10 (by decide) (inI_jc _ _) (fun q1 => ?_) (fun q1 => ?_)
  · have h := h.1 q1
    refine V_lload_n 0 rfl rfl dX12_wordTold_17 ?_
    refine V_ldc2 (x := (223456)) dX12_wordTold_18 lk_RX12_l157 (by decide) ?_
    refine V_lcmp hR0.2 (by decide) dX12_wordTold_21 ?_
    refine V_if_ne (tgt := 29) dX12_wordTold_22 (by decide) (inI_jc _ _) (fun q2 => ?_) (fun q2 => ?_)
    · have h := h.1 q2
      refine V_lload_n 0 rfl rfl dX12_wordTold_29 ?_
      refine V_ldc2 (x := (51266052)) dX12_wordTold_30 lk_RX12_l159 (by decide) ?_
      refine V_lcmp hR0.2 (by decide) dX12_wordTold_33 ?_
      refine V_if_ne (tgt := 41) dX12_wordTold_34 (by decide) (inI_jc _ _) (fun q3 => ?_) (fun q3 => ?_)
      · have h := h.1 q3
        refine V_lload_n 0 rfl rfl dX12_wordTold_41 ?_
        refine V_ldc2 (x := (257105)) dX12_wordTold_42 lk_RX12_l161 (by decide) ?_
        refine V_lcmp hR0.2 (by decide) dX12_wordTold_45 ?_
        refine V_if_ne (tgt := 53) dX12_wordTold_46 (by decide) (inI_jc _ _) (fun q4 => ?_) (fun q4 => ?_)
        · have h := h.1 q4
          refine V_lload_n 0 rfl rfl dX12_wordTold_53 ?_
          refine V_ldc2 (x := (10631)) dX12_wordTold_54 lk_RX12_l163 (by decide) ?_
          refine V_lcmp hR0.2 (by decide) dX12_wordTold_57 ?_
          refine V_if_ne (tgt := 65) dX12_wordTold_58 (by decide) (inI_jc _ _) (fun q5 => ?_) (fun q5 => ?_)
          · have h := h.1 q5
            refine V_lload_n 0 rfl rfl dX12_wordTold_65 ?_
            refine V_ldc2 (x := (1111)) dX12_wordTold_66 lk_RX12_l165 (by decide) ?_
            refine V_lcmp hR0.2 (by decide) dX12_wordTold_69 ?_
            refine V_if_ne (tgt := 77) dX12_wordTold_70 (by decide) (inI_jc _ _) (fun q6 => ?_) (fun q6 => ?_)
            · have h := h.1 q6
              refine V_lload_n 0 rfl rfl dX12_wordTold_77 ?_
              refine V_ldc2 (x := (423)) dX12_wordTold_78 lk_RX12_l167 (by decide) ?_
              refine V_lcmp hR0.2 (by decide) dX12_wordTold_81 ?_
              refine V_if_ne (tgt := 90) dX12_wordTold_82 (by decide) (inI_jc _ _) (fun q7 => ?_) (fun q7 => ?_)
              · have h := h.1 q7
                refine V_lload_n 0 rfl rfl dX12_wordTold_90 ?_
                refine V_ldc2 (x := (2045)) dX12_wordTold_91 lk_RX12_l169 (by decide) ?_
                refine V_lcmp hR0.2 (by decide) dX12_wordTold_94 ?_
                refine V_if_ne (tgt := 103) dX12_wordTold_95 (by decide) (inI_jc _ _) (fun q8 => ?_) (fun q8 => ?_)
                · have h := h.1 q8
                  refine V_iconst dX12_wordTold_103 ?_
                  exact V_sub [1, 0] rfl h
                · have h := h.2 q8
                  refine V_bipush (v := 7) (by decide) dX12_wordTold_98 ?_
                  refine V_goto (tgt := 104) dX12_wordTold_100 (by decide) ?_
                  exact V_sub [1, 0] rfl h
              · have h := h.2 q7
                refine V_bipush (v := 6) (by decide) dX12_wordTold_85 ?_
                refine V_goto (tgt := 104) dX12_wordTold_87 (by decide) ?_
                exact V_sub [1, 0] rfl h
            · have h := h.2 q6
              refine V_iconst dX12_wordTold_73 ?_
              refine V_goto (tgt := 104) dX12_wordTold_74 (by decide) ?_
              exact V_sub [1, 0] rfl h
          · have h := h.2 q5
            refine V_iconst dX12_wordTold_61 ?_
            refine V_goto (tgt := 104) dX12_wordTold_62 (by decide) ?_
            exact V_sub [1, 0] rfl h
        · have h := h.2 q4
          refine V_iconst dX12_wordTold_49 ?_
          refine V_goto (tgt := 104) dX12_wordTold_50 (by decide) ?_
          exact V_sub [1, 0] rfl h
      · have h := h.2 q3
        refine V_iconst dX12_wordTold_37 ?_
        refine V_goto (tgt := 104) dX12_wordTold_38 (by decide) ?_
        exact V_sub [1, 0] rfl h
    · have h := h.2 q2
      refine V_iconst dX12_wordTold_25 ?_
      refine V_goto (tgt := 104) dX12_wordTold_26 (by decide) ?_
      exact V_sub [1, 0] rfl h
  · have h := h.2 q1
    refine V_iconst dX12_wordTold_13 ?_
    refine V_goto (tgt := 104) dX12_wordTold_14 (by decide) ?_
    exact V_sub [1, 0] rfl h
set_option maxHeartbeats 2000000 in
set_option maxRecDepth 20000 in
theorem rX12_wordTold_104 {X : Cx} {w1 : Int} {s0 : Int} {σ : Sg} {Q : Int → Sg → Prop} (h : Rng σ → (inJ w1) ∧ ((¬ (jcmp w1 31735670) = 0 → (inJ w1) ∧ ((¬ (jcmp w1 400360) = 0 → (inJ w1) ∧ ((¬ (jcmp w1 267347) = 0 → (inJ w1) ∧ ((¬ (jcmp w1 6476969) = 0 → (inJ w1) ∧ ((¬ (jcmp w1 127558330490) = 0 → (inJ w1) ∧ ((¬ (jcmp w1 275356804) = 0 → (inJ w1) ∧ ((¬ (jcmp w1 305800) = 0 → GX12_wordTold_197 X w1 s0 ((-1)) σ Q) ∧ ((jcmp w1 305800) = 0 → GX12_wordTold_197 X w1 s0 14 σ Q))) ∧ ((jcmp w1 275356804) = 0 → GX12_wordTold_197 X w1 s0 13 σ Q))) ∧ ((jcmp w1 127558330490) = 0 → GX12_wordTold_197 X w1 s0 12 σ Q))) ∧ ((jcmp w1 6476969) = 0 → GX12_wordTold_197 X w1 s0 11 σ Q))) ∧ ((jcmp w1 267347) = 0 → GX12_wordTold_197 X w1 s0 10 σ Q))) ∧ ((jcmp w1 400360) = 0 → GX12_wordTold_197 X w1 s0 9 σ Q))) ∧ ((jcmp w1 31735670) = 0 → GX12_wordTold_197 X w1 s0 8 σ Q))) : GX12_wordTold_104 X w1 s0 σ Q := by
  unfold GX12_wordTold_104
  refine V_rng (fun hR0 => ?_)
  have h := h hR0
  refine V_istore_n (L' := [(3, .int (gI s0)), (0, .ref (cxA X 69)), (1, .long (gJ w1))]) rfl (by decide) rfl dX12_wordTold_104 ?_
  refine V_lload_n 2 rfl rfl dX12_wordTold_105 ?_
  refine V_ldc2 (x := (31735670)) dX12_wordTold_106 lk_RX12_l171 (by decide) ?_
  obtain ⟨g1, h⟩ := h
  refine V_lcmp g1 (by decide) dX12_wordTold_109 ?_
  refine V_if_ne (tgt := 118) dX12_wordTold_110 (by decide) (inI_jc _ _) (fun q2 => ?_) (fun q2 => ?_)
  · have h := h.1 q2
    refine V_lload_n 2 rfl rfl dX12_wordTold_118 ?_
    refine V_ldc2 (x := (400360)) dX12_wordTold_119 lk_RX12_l173 (by decide) ?_
    obtain ⟨g3, h⟩ := h
    refine V_lcmp g3 (by decide) dX12_wordTold_122 ?_
    refine V_if_ne (tgt := 131) dX12_wordTold_123 (by decide) (inI_jc _ _) (fun q4 => ?_) (fun q4 => ?_)
    · have h := h.1 q4
      refine V_lload_n 2 rfl rfl dX12_wordTold_131 ?_
      refine V_ldc2 (x := (267347)) dX12_wordTold_132 lk_RX12_l175 (by decide) ?_
      obtain ⟨g5, h⟩ := h
      refine V_lcmp g5 (by decide) dX12_wordTold_135 ?_
      refine V_if_ne (tgt := 144) dX12_wordTold_136 (by decide) (inI_jc _ _) (fun q6 => ?_) (fun q6 => ?_)
      · have h := h.1 q6
        refine V_lload_n 2 rfl rfl dX12_wordTold_144 ?_
        refine V_ldc2 (x := (6476969)) dX12_wordTold_145 lk_RX12_l177 (by decide) ?_
        obtain ⟨g7, h⟩ := h
        refine V_lcmp g7 (by decide) dX12_wordTold_148 ?_
        refine V_if_ne (tgt := 157) dX12_wordTold_149 (by decide) (inI_jc _ _) (fun q8 => ?_) (fun q8 => ?_)
        · have h := h.1 q8
          refine V_lload_n 2 rfl rfl dX12_wordTold_157 ?_
          refine V_ldc2 (x := (127558330490)) dX12_wordTold_158 lk_RX12_l179 (by decide) ?_
          obtain ⟨g9, h⟩ := h
          refine V_lcmp g9 (by decide) dX12_wordTold_161 ?_
          refine V_if_ne (tgt := 170) dX12_wordTold_162 (by decide) (inI_jc _ _) (fun q10 => ?_) (fun q10 => ?_)
          · have h := h.1 q10
            refine V_lload_n 2 rfl rfl dX12_wordTold_170 ?_
            refine V_ldc2 (x := (275356804)) dX12_wordTold_171 lk_RX12_l181 (by decide) ?_
            obtain ⟨g11, h⟩ := h
            refine V_lcmp g11 (by decide) dX12_wordTold_174 ?_
            refine V_if_ne (tgt := 183) dX12_wordTold_175 (by decide) (inI_jc _ _) (fun q12 => ?_) (fun q12 => ?_)
            · have h := h.1 q12
              refine V_lload_n 2 rfl rfl dX12_wordTold_183 ?_
              refine V_ldc2 (x := (305800)) dX12_wordTold_184 lk_RX12_l183 (by decide) ?_
              obtain ⟨g13, h⟩ := h
              refine V_lcmp g13 (by decide) dX12_wordTold_187 ?_
              refine V_if_ne (tgt := 196) dX12_wordTold_188 (by decide) (inI_jc _ _) (fun q14 => ?_) (fun q14 => ?_)
              · have h := h.1 q14
                refine V_iconst dX12_wordTold_196 ?_
                exact V_sub [1, 2, 0] rfl h
              · have h := h.2 q14
                refine V_bipush (v := 14) (by decide) dX12_wordTold_191 ?_
                refine V_goto (tgt := 197) dX12_wordTold_193 (by decide) ?_
                exact V_sub [1, 2, 0] rfl h
            · have h := h.2 q12
              refine V_bipush (v := 13) (by decide) dX12_wordTold_178 ?_
              refine V_goto (tgt := 197) dX12_wordTold_180 (by decide) ?_
              exact V_sub [1, 2, 0] rfl h
          · have h := h.2 q10
            refine V_bipush (v := 12) (by decide) dX12_wordTold_165 ?_
            refine V_goto (tgt := 197) dX12_wordTold_167 (by decide) ?_
            exact V_sub [1, 2, 0] rfl h
        · have h := h.2 q8
          refine V_bipush (v := 11) (by decide) dX12_wordTold_152 ?_
          refine V_goto (tgt := 197) dX12_wordTold_154 (by decide) ?_
          exact V_sub [1, 2, 0] rfl h
      · have h := h.2 q6
        refine V_bipush (v := 10) (by decide) dX12_wordTold_139 ?_
        refine V_goto (tgt := 197) dX12_wordTold_141 (by decide) ?_
        exact V_sub [1, 2, 0] rfl h
    · have h := h.2 q4
      refine V_bipush (v := 9) (by decide) dX12_wordTold_126 ?_
      refine V_goto (tgt := 197) dX12_wordTold_128 (by decide) ?_
      exact V_sub [1, 2, 0] rfl h
  · have h := h.2 q2
    refine V_bipush (v := 8) (by decide) dX12_wordTold_113 ?_
    refine V_goto (tgt := 197) dX12_wordTold_115 (by decide) ?_
    exact V_sub [1, 2, 0] rfl h
set_option maxHeartbeats 2000000 in
set_option maxRecDepth 20000 in
theorem rX12_wordTold_197 {X : Cx} {w1 : Int} {v3 : Int} {s0 : Int} {σ : Sg} {Q : Int → Sg → Prop} (h : Rng σ → (inI v3) ∧ ((¬ v3 = ((-1)) → Q v3 σ) ∧ (v3 = ((-1)) → Q s0 σ))) : GX12_wordTold_197 X w1 v3 s0 σ Q := by
  unfold GX12_wordTold_197
  refine V_rng (fun hR0 => ?_)
  have h := h hR0
  refine V_istore (L' := [(4, .int (gI s0)), (0, .ref (cxA X 69)), (1, .long (gJ w1)), (3, .int (gI v3))]) (by decide) rfl dX12_wordTold_197 ?_
  refine V_iload_n 3 rfl rfl dX12_wordTold_199 ?_
  refine V_iconst dX12_wordTold_200 ?_
  obtain ⟨g1, h⟩ := h
  refine V_icmp_ne (tgt := 209) dX12_wordTold_201 (by decide) g1 (by decide) (fun q2 => ?_) (fun q2 => ?_)
  · have h := h.1 q2
    refine V_iload_n 3 rfl rfl dX12_wordTold_209 ?_
    exact V_iret rfl (fun _ q => by cases q) (vp_nar_int _) dX12_wordTold_210 h
  · have h := h.2 q2
    refine V_iload 0 rfl dX12_wordTold_204 ?_
    refine V_goto (tgt := 210) dX12_wordTold_206 (by decide) ?_
    exact V_iret rfl (fun _ q => by cases q) (vp_nar_int _) dX12_wordTold_210 h
theorem eX12_wordTold {X : Cx} {σ : Sg} {Q : Int → Sg → Prop} (h : GX12_wordTold_0 X σ Q) : KX12_wordTold X σ Q := V_enter (by decide) (Nat.le_of_ble_eq_true rfl) rfl h
def GX12_needs_0 (X : Cx) (v0 : Int) (σ : Sg) (Q : Int → Sg → Prop) : Prop := VV X mX12_needs 0 [(0, .int (gI v0))] [] σ Q
set_option maxHeartbeats 2000000 in
set_option maxRecDepth 20000 in
theorem rX12_needs_0 {X : Cx} {v0 : Int} {σ : Sg} {Q : Int → Sg → Prop} (h : Rng σ → (inI v0) ∧ ((4 ≤ v0 → (inI v0) ∧ ((v0 ≤ 4 → Q 1 σ) ∧ (4 < v0 → (inI v0) ∧ ((8 ≤ v0 → Q 1 σ) ∧ (v0 < 8 → Q 2 σ))))) ∧ (v0 < 4 → Q 0 σ))) : GX12_needs_0 X v0 σ Q := by
  unfold GX12_needs_0
  refine V_rng (fun hR0 => ?_)
  have h := h hR0
  refine V_iload_n 0 rfl rfl dX12_needs_0 ?_
  refine V_iconst dX12_needs_1 ?_
  obtain ⟨g1, h⟩ := h
  refine V_icmp_ge (tgt := 9) dX12_needs_2 (by decide) g1 (by decide) (fun q2 => ?_) (fun q2 => ?_)
  · have h := h.1 q2
    refine V_iload_n 0 rfl rfl dX12_needs_9 ?_
    refine V_iconst dX12_needs_10 ?_
    obtain ⟨g3, h⟩ := h
    refine V_icmp_le (tgt := 24) dX12_needs_11 (by decide) g3 (by decide) (fun q4 => ?_) (fun q4 => ?_)
    · have h := h.1 q4
      refine V_iconst dX12_needs_24 ?_
      exact V_iret rfl (fun _ q => by cases q) (vp_nar_int _) dX12_needs_25 h
    · have h := h.2 q4
      refine V_iload_n 0 rfl rfl dX12_needs_14 ?_
      refine V_bipush (v := 8) (by decide) dX12_needs_15 ?_
      obtain ⟨g5, h⟩ := h
      refine V_icmp_ge (tgt := 24) dX12_needs_17 (by decide) g5 (by decide) (fun q6 => ?_) (fun q6 => ?_)
      · have h := h.1 q6
        refine V_iconst dX12_needs_24 ?_
        exact V_iret rfl (fun _ q => by cases q) (vp_nar_int _) dX12_needs_25 h
      · have h := h.2 q6
        refine V_iconst dX12_needs_20 ?_
        refine V_goto (tgt := 25) dX12_needs_21 (by decide) ?_
        exact V_iret rfl (fun _ q => by cases q) (vp_nar_int _) dX12_needs_25 h
  · have h := h.2 q2
    refine V_iconst dX12_needs_5 ?_
    refine V_goto (tgt := 25) dX12_needs_6 (by decide) ?_
    exact V_iret rfl (fun _ q => by cases q) (vp_nar_int _) dX12_needs_25 h
theorem eX12_needs {X : Cx} {v0 : Int} {σ : Sg} {Q : Int → Sg → Prop} (h : GX12_needs_0 X v0 σ Q) : KX12_needs X v0 σ Q := V_enter (by decide) (Nat.le_of_ble_eq_true rfl) rfl h
def GX12_isRead_0 (X : Cx) (σ : Sg) (Q : Int → Sg → Prop) : Prop := VV X mX12_isRead 0 [(0, .ref (cxA X 69))] [] σ Q
def GX12_isRead_12 (X : Cx) (v1 : Int) (σ : Sg) (Q : Int → Sg → Prop) : Prop := VV X mX12_isRead 12 [(0, .ref (cxA X 69)), (1, .int (gI v1))] [] σ Q
def GX12_isRead_39 (X : Cx) (v1 : Int) (v2 : Int) (σ : Sg) (Q : Int → Sg → Prop) : Prop := VV X mX12_isRead 39 [(0, .ref (cxA X 69)), (1, .int (gI v1)), (2, .int (gI v2))] [] σ Q
def GX12_isRead_79 (X : Cx) (v1 : Int) (v2 : Int) (σ : Sg) (Q : Int → Sg → Prop) : Prop := VV X mX12_isRead 79 [(0, .ref (cxA X 69)), (1, .int (gI v1)), (2, .int (gI v2))] [] σ Q
def GX12_isRead_108 (X : Cx) (v1 : Int) (v2 : Int) (s0 : Int) (s1 : Int) (σ : Sg) (Q : Int → Sg → Prop) : Prop := VV X mX12_isRead 108 [(0, .ref (cxA X 69)), (1, .int (gI v1)), (2, .int (gI v2))] [.int (gI s0), .int (gI s1)] σ Q
def GX12_isRead_111 (X : Cx) (v1 : Int) (v2 : Int) (σ : Sg) (Q : Int → Sg → Prop) : Prop := VV X mX12_isRead 111 [(0, .ref (cxA X 69)), (1, .int (gI v1)), (2, .int (gI v2))] [] σ Q
def GX12_isRead_129 (X : Cx) (v1 : Int) (v2 : Int) (σ : Sg) (Q : Int → Sg → Prop) : Prop := VV X mX12_isRead 129 [(0, .ref (cxA X 69)), (1, .int (gI v1)), (2, .int (gI v2))] [] σ Q
set_option maxHeartbeats 2000000 in
set_option maxRecDepth 20000 in
theorem rX12_isRead_0 {X : Cx} {σ : Sg} {Q : Int → Sg → Prop} (h : Rng σ → GX12_isRead_12 X 1 (up2 (up2 σ 69 10 0) 69 16 0) Q) : GX12_isRead_0 X σ Q := by
  unfold GX12_isRead_0
  refine V_rng (fun hR0 => ?_)
  have h := h hR0
  refine V_aload_n 0 rfl rfl dX12_isRead_0 ?_
  refine V_iconst dX12_isRead_1 ?_
  refine V_putI (f := 10) ci_X12 sh_69 rfl (by decide) rfl rfl (by decide) dX12_isRead_2 lk_RX12_f126 ?_
  refine V_aload_n 0 rfl rfl dX12_isRead_5 ?_
  refine V_iconst dX12_isRead_6 ?_
  refine V_putI (f := 16) ci_X12 sh_69 rfl (by decide) rfl rfl (by decide) dX12_isRead_7 lk_RX12_f185 ?_
  refine V_iconst dX12_isRead_10 ?_
  refine V_istore_n (L' := [(1, .int (gI 1)), (0, .ref (cxA X 69))]) rfl (by decide) rfl dX12_isRead_11 ?_
  exact V_sub [1, 0] rfl h
set_option maxHeartbeats 2000000 in
set_option maxRecDepth 20000 in
theorem rX12_isRead_12 {X : Cx} {v1 : Int} {σ : Sg} {Q : Int → Sg → Prop} (h : Rng σ → (inI v1) ∧ ((v1 ≤ 0 → KX12_nextToken X σ (fun r3 σ4 => Rng σ4 → (((jcmp (σ4 69 12) ((-2))) = 0 → Q 1 σ4) ∧ (¬ (jcmp (σ4 69 12) ((-2))) = 0 → KX12_fails X σ4 (fun r7 σ8 => Rng σ8 → (inI r7) ∧ ((r7 = 0 → Q 0 σ8) ∧ (¬ r7 = 0 → Q 1 σ8))))))) ∧ (0 < v1 → KX12_nextToken X σ (fun r12 σ13 => Rng σ13 → KX12_wordTold X σ13 (fun r15 σ16 => Rng σ16 → (inI r15) ∧ ((r15 = ((-1)) → GX12_isRead_39 X v1 r15 σ16 Q) ∧ (¬ r15 = ((-1)) → ((¬ (σ16 69 16) = 24 → (0 ≤ σ16 69 16 ∧ σ16 69 16 < 24) ∧ (inI r15) ∧ (0 ≤ σ16 69 16 ∧ σ16 69 16 < 24) ∧ (inI r15) ∧ ((r15 = 1 → GX12_isRead_79 X v1 r15 (up2 (up2 σ16 78 ((σ16 69 16).toNat) r15) 79 ((σ16 69 16).toNat) 0) Q) ∧ (¬ r15 = 1 → (inI r15) ∧ ((r15 = 2 → GX12_isRead_79 X v1 r15 (up2 (up2 σ16 78 ((σ16 69 16).toNat) r15) 79 ((σ16 69 16).toNat) 0) Q) ∧ (¬ r15 = 2 → (inI r15) ∧ ((¬ r15 = 3 → GX12_isRead_129 X v1 r15 (up2 (up2 σ16 78 ((σ16 69 16).toNat) r15) 79 ((σ16 69 16).toNat) 0) Q) ∧ (r15 = 3 → GX12_isRead_79 X v1 r15 (up2 (up2 σ16 78 ((σ16 69 16).toNat) r15) 79 ((σ16 69 16).toNat) 0) Q))))))) ∧ ((σ16 69 16) = 24 → GX12_isRead_39 X v1 r15 σ16 Q))))))))) : GX12_isRead_12 X v1 σ Q := by
  unfold GX12_isRead_12
  refine V_rng (fun hR0 => ?_)
  have h := h hR0
  refine V_iload_n 1 rfl rfl dX12_isRead_12 ?_
  obtain ⟨g1, h⟩ := h
  refine V_if_le (tgt := 151) dX12_isRead_13 (by decide) g1 (fun q2 => ?_) (fun q2 => ?_)
  · have h := h.1 q2
    refine V_aload_n 0 rfl rfl dX12_isRead_151 ?_
    refine V_cV (M' := mX12_nextToken) (As := []) (fun _ => []) ok_X12_nextToken ok2_X12_nextToken sh_69 rfl (by decide) rfl rfl (Nat.le_of_ble_eq_true rfl) dX12_isRead_152 lk_RX12_m188 (by decide) (fun _ => rfl) h (fun r3 σ4 h => ?_)
    refine V_rng (fun hR5 => ?_)
    have h := h hR5
    refine V_aload_n 0 rfl rfl dX12_isRead_155 ?_
    refine V_getJ (f := 12) ci_X12 sh_69 rfl (by decide) dX12_isRead_156 lk_RX12_f140 ?_
    refine V_ldc2 (x := (-2)) dX12_isRead_159 lk_RX12_l138 (by decide) ?_
    refine V_lcmp hR5.2 (by decide) dX12_isRead_162 ?_
    refine V_if_eq (tgt := 173) dX12_isRead_163 (by decide) (inI_jc _ _) (fun q6 => ?_) (fun q6 => ?_)
    · have h := h.1 q6
      refine V_iconst dX12_isRead_173 ?_
      refine V_goto (tgt := 178) dX12_isRead_174 (by decide) ?_
      exact V_iret rfl (fun _ q => by cases q) (by decide) dX12_isRead_178 h
    · have h := h.2 q6
      refine V_aload_n 0 rfl rfl dX12_isRead_166 ?_
      refine V_cV (M' := mX12_fails) (As := []) (fun r => [.int (gI r)]) ok_X12_fails ok2_X12_fails sh_69 rfl (by decide) rfl rfl (Nat.le_of_ble_eq_true rfl) dX12_isRead_167 lk_RX12_m194 (by decide) (fun _ => rfl) h (fun r7 σ8 h => ?_)
      refine V_rng (fun hR9 => ?_)
      have h := h hR9
      obtain ⟨g10, h⟩ := h
      refine V_if_eq (tgt := 177) dX12_isRead_170 (by decide) g10 (fun q11 => ?_) (fun q11 => ?_)
      · have h := h.1 q11
        refine V_iconst dX12_isRead_177 ?_
        exact V_iret rfl (fun _ q => by cases q) (by decide) dX12_isRead_178 h
      · have h := h.2 q11
        refine V_iconst dX12_isRead_173 ?_
        refine V_goto (tgt := 178) dX12_isRead_174 (by decide) ?_
        exact V_iret rfl (fun _ q => by cases q) (by decide) dX12_isRead_178 h
  · have h := h.2 q2
    refine V_aload_n 0 rfl rfl dX12_isRead_16 ?_
    refine V_cV (M' := mX12_nextToken) (As := []) (fun _ => []) ok_X12_nextToken ok2_X12_nextToken sh_69 rfl (by decide) rfl rfl (Nat.le_of_ble_eq_true rfl) dX12_isRead_17 lk_RX12_m188 (by decide) (fun _ => rfl) h (fun r12 σ13 h => ?_)
    refine V_rng (fun hR14 => ?_)
    have h := h hR14
    refine V_aload_n 0 rfl rfl dX12_isRead_20 ?_
    refine V_cV (M' := mX12_wordTold) (As := []) (fun r => [.int (gI r)]) ok_X12_wordTold ok2_X12_wordTold sh_69 rfl (by decide) rfl rfl (Nat.le_of_ble_eq_true rfl) dX12_isRead_21 lk_RX12_m191 (by decide) (fun _ => rfl) h (fun r15 σ16 h => ?_)
    refine V_rng (fun hR17 => ?_)
    have h := h hR17
    refine V_istore_n (L' := [(2, .int (gI r15)), (0, .ref (cxA X 69)), (1, .int (gI v1))]) rfl (by decide) rfl dX12_isRead_24 ?_
    refine V_iload_n 0 rfl rfl dX12_isRead_25 ?_
    refine V_iconst dX12_isRead_26 ?_
    obtain ⟨g18, h⟩ := h
    refine V_icmp_eq (tgt := 39) dX12_isRead_27 (by decide) g18 (by decide) (fun q19 => ?_) (fun q19 => ?_)
    · have h := h.1 q19
      exact V_sub [1, 2, 0] rfl h
    · have h := h.2 q19
      refine V_aload_n 1 rfl rfl dX12_isRead_30 ?_
      refine V_getI (f := 16) ci_X12 sh_69 rfl (by decide) dX12_isRead_31 lk_RX12_f185 ?_
      refine V_bipush (v := 24) (by decide) dX12_isRead_34 ?_
      refine V_icmp_ne (tgt := 44) dX12_isRead_36 (by decide) (show inI (σ16 69 16) from (hR17.1 69 16 (by decide))) (by decide) (fun q20 => ?_) (fun q20 => ?_)
      · have h := h.1 q20
        refine V_aload_n 1 rfl rfl dX12_isRead_44 ?_
        refine V_getR (f := 17) ci_X12 sh_69 rfl (by decide) (c1 := 78) rfl dX12_isRead_45 lk_RX12_f34 ?_
        refine V_aload_n 1 rfl rfl dX12_isRead_48 ?_
        refine V_getI (f := 16) ci_X12 sh_69 rfl (by decide) dX12_isRead_49 lk_RX12_f185 ?_
        refine V_iload_n 0 rfl rfl dX12_isRead_52 ?_
        obtain ⟨g21, h⟩ := h
        obtain ⟨g22, h⟩ := h
        refine V_iast sh_78 (by decide) g21 g22 dX12_isRead_53 ?_
        refine V_aload_n 1 rfl rfl dX12_isRead_54 ?_
        refine V_getR (f := 18) ci_X12 sh_69 rfl (by decide) (c1 := 79) rfl dX12_isRead_55 lk_RX12_f37 ?_
        refine V_aload_n 1 rfl rfl dX12_isRead_58 ?_
        refine V_getI (f := 16) ci_X12 sh_69 rfl (by decide) dX12_isRead_59 lk_RX12_f185 ?_
        refine V_iconst dX12_isRead_62 ?_
        obtain ⟨g23, h⟩ := h
        refine V_iast sh_79 (by decide) g23 (by decide) dX12_isRead_63 ?_
        refine V_iload_n 0 rfl rfl dX12_isRead_64 ?_
        refine V_iconst dX12_isRead_65 ?_
        obtain ⟨g24, h⟩ := h
        refine V_icmp_eq (tgt := 79) dX12_isRead_66 (by decide) g24 (by decide) (fun q25 => ?_) (fun q25 => ?_)
        · have h := h.1 q25
          exact V_sub [1, 2, 0] rfl h
        · have h := h.2 q25
          refine V_iload_n 0 rfl rfl dX12_isRead_69 ?_
          refine V_iconst dX12_isRead_70 ?_
          obtain ⟨g26, h⟩ := h
          refine V_icmp_eq (tgt := 79) dX12_isRead_71 (by decide) g26 (by decide) (fun q27 => ?_) (fun q27 => ?_)
          · have h := h.1 q27
            exact V_sub [1, 2, 0] rfl h
          · have h := h.2 q27
            refine V_iload_n 0 rfl rfl dX12_isRead_74 ?_
            refine V_iconst dX12_isRead_75 ?_
            obtain ⟨g28, h⟩ := h
            refine V_icmp_ne (tgt := 129) dX12_isRead_76 (by decide) g28 (by decide) (fun q29 => ?_) (fun q29 => ?_)
            · have h := h.1 q29
              exact V_sub [1, 2, 0] rfl h
            · have h := h.2 q29
              exact V_sub [1, 2, 0] rfl h
      · have h := h.2 q20
        exact V_sub [1, 2, 0] rfl h
set_option maxHeartbeats 2000000 in
set_option maxRecDepth 20000 in
theorem rX12_isRead_39 {X : Cx} {v1 : Int} {v2 : Int} {σ : Sg} {Q : Int → Sg → Prop} (h : Rng σ → KX12_fails X σ (fun r1 σ2 => Rng σ2 → (r1 = 0 ∨ r1 = 1) ∧ Q r1 σ2)) : GX12_isRead_39 X v1 v2 σ Q := by
  unfold GX12_isRead_39
  refine V_rng (fun hR0 => ?_)
  have h := h hR0
  refine V_aload_n 0 rfl rfl dX12_isRead_39 ?_
  refine V_cV (M' := mX12_fails) (As := []) (fun r => [.int (gI r)]) ok_X12_fails ok2_X12_fails sh_69 rfl (by decide) rfl rfl (Nat.le_of_ble_eq_true rfl) dX12_isRead_40 lk_RX12_m194 (by decide) (fun _ => rfl) h (fun r1 σ2 h => ?_)
  refine V_rng (fun hR3 => ?_)
  have h := h hR3
  obtain ⟨g4, h⟩ := h
  exact V_iret rfl (fun _ q => by cases q) (nar_Z g4).1 dX12_isRead_43 h
set_option maxHeartbeats 2000000 in
set_option maxRecDepth 20000 in
theorem rX12_isRead_79 {X : Cx} {v1 : Int} {v2 : Int} {σ : Sg} {Q : Int → Sg → Prop} (h : Rng σ → KX12_nextToken X σ (fun r1 σ2 => Rng σ2 → ((¬ (jcmp (σ2 69 12) ((-1))) = 0 → GX12_isRead_111 X v1 v2 σ2 Q) ∧ ((jcmp (σ2 69 12) ((-1))) = 0 → (inI v2) ∧ ((¬ v2 = 3 → GX12_isRead_108 X v1 v2 3 (σ2 69 14) σ2 Q) ∧ (v2 = 3 → GX12_isRead_108 X v1 v2 2 (σ2 69 14) σ2 Q)))))) : GX12_isRead_79 X v1 v2 σ Q := by
  unfold GX12_isRead_79
  refine V_rng (fun hR0 => ?_)
  have h := h hR0
  refine V_aload_n 0 rfl rfl dX12_isRead_79 ?_
  refine V_cV (M' := mX12_nextToken) (As := []) (fun _ => []) ok_X12_nextToken ok2_X12_nextToken sh_69 rfl (by decide) rfl rfl (Nat.le_of_ble_eq_true rfl) dX12_isRead_80 lk_RX12_m188 (by decide) (fun _ => rfl) h (fun r1 σ2 h => ?_)
  refine V_rng (fun hR3 => ?_)
  have h := h hR3
  refine V_aload_n 0 rfl rfl dX12_isRead_83 ?_
  refine V_getJ (f := 12) ci_X12 sh_69 rfl (by decide) dX12_isRead_84 lk_RX12_f140 ?_
  refine V_ldc2 (x := (-1)) dX12_isRead_87 lk_RX12_l150 (by decide) ?_
  refine V_lcmp hR3.2 (by decide) dX12_isRead_90 ?_
  refine V_if_ne (tgt := 111) dX12_isRead_91 (by decide) (inI_jc _ _) (fun q4 => ?_) (fun q4 => ?_)
  · have h := h.1 q4
    exact h
  · have h := h.2 q4
    refine V_aload_n 0 rfl rfl dX12_isRead_94 ?_
    refine V_getI (f := 14) ci_X12 sh_69 rfl (by decide) dX12_isRead_95 lk_RX12_f135 ?_
    refine V_iload_n 2 rfl rfl dX12_isRead_98 ?_
    refine V_iconst dX12_isRead_99 ?_
    obtain ⟨g5, h⟩ := h
    refine V_icmp_ne (tgt := 107) dX12_isRead_100 (by decide) g5 (by decide) (fun q6 => ?_) (fun q6 => ?_)
    · have h := h.1 q6
      refine V_iconst dX12_isRead_107 ?_
      exact h
    · have h := h.2 q6
      refine V_iconst dX12_isRead_103 ?_
      refine V_goto (tgt := 108) dX12_isRead_104 (by decide) ?_
      exact h
set_option maxHeartbeats 2000000 in
set_option maxRecDepth 20000 in
theorem rX12_isRead_108 {X : Cx} {v1 : Int} {v2 : Int} {s0 : Int} {s1 : Int} {σ : Sg} {Q : Int → Sg → Prop} (h : Rng σ → (inI s1) ∧ (inI s0) ∧ ((s1 ≤ s0 → (0 ≤ σ 69 16 ∧ σ 69 16 < 24) ∧ GX12_isRead_129 X v1 v2 (up2 σ 79 ((σ 69 16).toNat) (σ 69 14)) Q) ∧ (s0 < s1 → GX12_isRead_111 X v1 v2 σ Q))) : GX12_isRead_108 X v1 v2 s0 s1 σ Q := by
  unfold GX12_isRead_108
  refine V_rng (fun hR0 => ?_)
  have h := h hR0
  obtain ⟨g1, h⟩ := h
  obtain ⟨g2, h⟩ := h
  refine V_icmp_le (tgt := 116) dX12_isRead_108 (by decide) g1 g2 (fun q3 => ?_) (fun q3 => ?_)
  · have h := h.1 q3
    refine V_aload_n 0 rfl rfl dX12_isRead_116 ?_
    refine V_getR (f := 18) ci_X12 sh_69 rfl (by decide) (c1 := 79) rfl dX12_isRead_117 lk_RX12_f37 ?_
    refine V_aload_n 0 rfl rfl dX12_isRead_120 ?_
    refine V_getI (f := 16) ci_X12 sh_69 rfl (by decide) dX12_isRead_121 lk_RX12_f185 ?_
    refine V_aload_n 0 rfl rfl dX12_isRead_124 ?_
    refine V_getI (f := 14) ci_X12 sh_69 rfl (by decide) dX12_isRead_125 lk_RX12_f135 ?_
    obtain ⟨g4, h⟩ := h
    refine V_iast sh_79 (by decide) g4 (show inI (σ 69 14) from (hR0.1 69 14 (by decide))) dX12_isRead_128 ?_
    exact h
  · have h := h.2 q3
    exact h
set_option maxHeartbeats 2000000 in
set_option maxRecDepth 20000 in
theorem rX12_isRead_111 {X : Cx} {v1 : Int} {v2 : Int} {σ : Sg} {Q : Int → Sg → Prop} (h : Rng σ → KX12_fails X σ (fun r1 σ2 => Rng σ2 → (r1 = 0 ∨ r1 = 1) ∧ Q r1 σ2)) : GX12_isRead_111 X v1 v2 σ Q := by
  unfold GX12_isRead_111
  refine V_rng (fun hR0 => ?_)
  have h := h hR0
  refine V_aload_n 0 rfl rfl dX12_isRead_111 ?_
  refine V_cV (M' := mX12_fails) (As := []) (fun r => [.int (gI r)]) ok_X12_fails ok2_X12_fails sh_69 rfl (by decide) rfl rfl (Nat.le_of_ble_eq_true rfl) dX12_isRead_112 lk_RX12_m194 (by decide) (fun _ => rfl) h (fun r1 σ2 h => ?_)
  refine V_rng (fun hR3 => ?_)
  have h := h hR3
  obtain ⟨g4, h⟩ := h
  exact V_iret rfl (fun _ q => by cases q) (nar_Z g4).1 dX12_isRead_115 h
set_option maxHeartbeats 2000000 in
set_option maxRecDepth 20000 in
theorem rX12_isRead_129 {X : Cx} {v1 : Int} {v2 : Int} {σ : Sg} {Q : Int → Sg → Prop} (h : Rng σ → (inI ((σ 69 16) + 1)) ∧ KX12_needs X v2 (up2 σ 69 16 ((σ 69 16) + 1)) (fun r2 σ3 => Rng σ3 → GX12_isRead_12 X (v1 + (r2 - 1)) σ3 Q)) : GX12_isRead_129 X v1 v2 σ Q := by
  unfold GX12_isRead_129
  refine V_rng (fun hR0 => ?_)
  have h := h hR0
  refine V_aload_n 0 rfl rfl dX12_isRead_129 ?_
  refine V_dup rfl dX12_isRead_130 ?_
  refine V_getI (f := 16) ci_X12 sh_69 rfl (by decide) dX12_isRead_131 lk_RX12_f185 ?_
  refine V_iconst dX12_isRead_134 ?_
  refine V_iadd dX12_isRead_135 ?_
  obtain ⟨g1, h⟩ := h
  refine V_putI (f := 16) ci_X12 sh_69 rfl (by decide) rfl rfl g1 dX12_isRead_136 lk_RX12_f185 ?_
  refine V_iload_n 1 rfl rfl dX12_isRead_139 ?_
  refine V_iload_n 2 rfl rfl dX12_isRead_140 ?_
  refine V_cS (M' := mX12_needs) (As := [.int (gI v2)]) (fun r => [.int (gI r), .int (gI v1)]) ok_X12_needs ok2_X12_needs rfl rfl (Nat.le_of_ble_eq_true rfl) dX12_isRead_141 lk_RX12_m198 (by decide) (fun _ => rfl) h (fun r2 σ3 h => ?_)
  refine V_rng (fun hR4 => ?_)
  have h := h hR4
  refine V_iconst dX12_isRead_144 ?_
  refine V_isub dX12_isRead_145 ?_
  refine V_iadd dX12_isRead_146 ?_
  refine V_istore_n (L' := [(1, .int (gI (v1 + (r2 - 1)))), (0, .ref (cxA X 69)), (2, .int (gI v2))]) rfl (by decide) rfl dX12_isRead_147 ?_
  refine V_goto (tgt := 12) dX12_isRead_148 (by decide) ?_
  exact V_sub [1, 0] rfl h
theorem eX12_isRead {X : Cx} {σ : Sg} {Q : Int → Sg → Prop} (h : GX12_isRead_0 X σ Q) : KX12_isRead X σ Q := V_enter (by decide) (Nat.le_of_ble_eq_true rfl) rfl h
def GX12_fault_0 (X : Cx) (σ : Sg) (Q : Int → Sg → Prop) : Prop := VV X mX12_fault 0 [(0, .ref (cxA X 69))] [] σ Q
set_option maxHeartbeats 2000000 in
set_option maxRecDepth 20000 in
theorem rX12_fault_0 {X : Cx} {σ : Sg} {Q : Int → Sg → Prop} (h : Rng σ → KX12_isRead X σ (fun r1 σ2 => Rng σ2 → (inI r1) ∧ ((r1 = 0 → Q (σ2 69 15) σ2) ∧ (¬ r1 = 0 → Q ((-1)) σ2)))) : GX12_fault_0 X σ Q := by
  unfold GX12_fault_0
  refine V_rng (fun hR0 => ?_)
  have h := h hR0
  refine V_aload_n 0 rfl rfl dX12_fault_0 ?_
  refine V_cV (M' := mX12_isRead) (As := []) (fun r => [.int (gI r)]) ok_X12_isRead ok2_X12_isRead sh_69 rfl (by decide) rfl rfl (Nat.le_of_ble_eq_true rfl) dX12_fault_1 lk_RX12_m201 (by decide) (fun _ => rfl) h (fun r1 σ2 h => ?_)
  refine V_rng (fun hR3 => ?_)
  have h := h hR3
  obtain ⟨g4, h⟩ := h
  refine V_if_eq (tgt := 11) dX12_fault_4 (by decide) g4 (fun q5 => ?_) (fun q5 => ?_)
  · have h := h.1 q5
    refine V_aload_n 0 rfl rfl dX12_fault_11 ?_
    refine V_getI (f := 15) ci_X12 sh_69 rfl (by decide) dX12_fault_12 lk_RX12_f152 ?_
    exact V_iret rfl (fun _ q => by cases q) (vp_nar_int _) dX12_fault_15 h
  · have h := h.2 q5
    refine V_iconst dX12_fault_7 ?_
    refine V_goto (tgt := 15) dX12_fault_8 (by decide) ?_
    exact V_iret rfl (fun _ q => by cases q) (vp_nar_int _) dX12_fault_15 h
theorem eX12_fault {X : Cx} {σ : Sg} {Q : Int → Sg → Prop} (h : GX12_fault_0 X σ Q) : KX12_fault X σ Q := V_enter (by decide) (Nat.le_of_ble_eq_true rfl) rfl h
def GX12_allOf_0 (X : Cx) (v1 : Int) (v2 : Int) (σ : Sg) (Q : Int → Sg → Prop) : Prop := VV X mX12_allOf 0 [(0, .ref (cxA X 69)), (1, .int (gI v1)), (2, .int (gI v2))] [] σ Q
def GX12_allOf_5 (X : Cx) (v1 : Int) (v2 : Int) (v3 : Int) (v4 : Int) (σ : Sg) (Q : Int → Sg → Prop) : Prop := VV X mX12_allOf 5 [(0, .ref (cxA X 69)), (1, .int (gI v1)), (2, .int (gI v2)), (3, .int (gI v3)), (4, .int (gI v4))] [] σ Q
def GX12_allOf_34 (X : Cx) (v1 : Int) (v2 : Int) (v3 : Int) (v4 : Int) (σ : Sg) (Q : Int → Sg → Prop) : Prop := VV X mX12_allOf 34 [(0, .ref (cxA X 69)), (1, .int (gI v1)), (2, .int (gI v2)), (3, .int (gI v3)), (4, .int (gI v4))] [] σ Q
def GX12_allOf_50 (X : Cx) (v1 : Int) (v2 : Int) (v3 : Int) (v4 : Int) (σ : Sg) (Q : Int → Sg → Prop) : Prop := VV X mX12_allOf 50 [(0, .ref (cxA X 69)), (1, .int (gI v1)), (2, .int (gI v2)), (3, .int (gI v3)), (4, .int (gI v4))] [] σ Q
def GX12_allOf_70 (X : Cx) (v1 : Int) (v2 : Int) (v3 : Int) (v4 : Int) (σ : Sg) (Q : Int → Sg → Prop) : Prop := VV X mX12_allOf 70 [(0, .ref (cxA X 69)), (1, .int (gI v1)), (2, .int (gI v2)), (3, .int (gI v3)), (4, .int (gI v4))] [] σ Q
def GX12_allOf_74 (X : Cx) (v1 : Int) (v2 : Int) (v3 : Int) (v4 : Int) (σ : Sg) (Q : Int → Sg → Prop) : Prop := VV X mX12_allOf 74 [(0, .ref (cxA X 69)), (1, .int (gI v1)), (2, .int (gI v2)), (3, .int (gI v3)), (4, .int (gI v4))] [] σ Q
def GX12_allOf_75 (X : Cx) (v1 : Int) (v2 : Int) (v3 : Int) (v4 : Int) (s0 : Int) (σ : Sg) (Q : Int → Sg → Prop) : Prop := VV X mX12_allOf 75 [(0, .ref (cxA X 69)), (1, .int (gI v1)), (2, .int (gI v2)), (3, .int (gI v3)), (4, .int (gI v4))] [.int (gI s0)] σ Q
def GX12_allOf_91 (X : Cx) (v1 : Int) (v2 : Int) (v3 : Int) (v4 : Int) (v5 : Int) (s0 : Int) (s1 : Int) (σ : Sg) (Q : Int → Sg → Prop) : Prop := VV X mX12_allOf 91 [(0, .ref (cxA X 69)), (1, .int (gI v1)), (2, .int (gI v2)), (3, .int (gI v3)), (4, .int (gI v4)), (5, .int (gI v5))] [.int (gI s0), .int (gI s1)] σ Q
set_option maxHeartbeats 2000000 in
set_option maxRecDepth 20000 in
theorem rX12_allOf_0 {X : Cx} {v1 : Int} {v2 : Int} {σ : Sg} {Q : Int → Sg → Prop} (h : Rng σ → GX12_allOf_5 X v1 v2 0 0 σ Q) : GX12_allOf_0 X v1 v2 σ Q := by
  unfold GX12_allOf_0
  refine V_rng (fun hR0 => ?_)
  have h := h hR0
  refine V_iconst dX12_allOf_0 ?_
  refine V_istore_n (L' := [(3, .int (gI 0)), (0, .ref (cxA X 69)), (1, .int (gI v1)), (2, .int (gI v2))]) rfl (by decide) rfl dX12_allOf_1 ?_
  refine V_iconst dX12_allOf_2 ?_
  refine V_istore (L' := [(4, .int (gI 0)), (3, .int (gI 0)), (0, .ref (cxA X 69)), (1, .int (gI v1)), (2, .int (gI v2))]) (by decide) rfl dX12_allOf_3 ?_
  exact V_sub [2, 3, 4, 1, 0] rfl h
set_option maxHeartbeats 2000000 in
set_option maxRecDepth 20000 in
theorem rX12_allOf_5 {X : Cx} {v1 : Int} {v2 : Int} {v3 : Int} {v4 : Int} {σ : Sg} {Q : Int → Sg → Prop} (h : Rng σ → (inI v4) ∧ (((σ 69 0) ≤ v4 → Q v3 σ) ∧ (v4 < (σ 69 0) → (inI v1) ∧ ((v1 = 0 → GX12_allOf_70 X v1 v2 v3 v4 σ Q) ∧ (¬ v1 = 0 → (inI v1) ∧ ((¬ v1 = 1 → GX12_allOf_34 X v1 v2 v3 v4 σ Q) ∧ (v1 = 1 → (0 ≤ v4 ∧ v4 < 8) ∧ (inI v2) ∧ (((σ 70 v4.toNat) = v2 → GX12_allOf_70 X v1 v2 v3 v4 σ Q) ∧ (¬ (σ 70 v4.toNat) = v2 → GX12_allOf_34 X v1 v2 v3 v4 σ Q))))))))) : GX12_allOf_5 X v1 v2 v3 v4 σ Q := by
  unfold GX12_allOf_5
  refine V_rng (fun hR0 => ?_)
  have h := h hR0
  refine V_iload 4 rfl dX12_allOf_5 ?_
  refine V_aload_n 0 rfl rfl dX12_allOf_7 ?_
  refine V_getI (f := 0) ci_X12 sh_69 rfl (by decide) dX12_allOf_8 lk_RX12_f98 ?_
  obtain ⟨g1, h⟩ := h
  refine V_icmp_ge (tgt := 99) dX12_allOf_11 (by decide) g1 (show inI (σ 69 0) from (hR0.1 69 0 (by decide))) (fun q2 => ?_) (fun q2 => ?_)
  · have h := h.1 q2
    refine V_iload_n 3 rfl rfl dX12_allOf_99 ?_
    exact V_iret rfl (fun _ q => by cases q) (vp_nar_int _) dX12_allOf_100 h
  · have h := h.2 q2
    refine V_iload_n 1 rfl rfl dX12_allOf_14 ?_
    obtain ⟨g3, h⟩ := h
    refine V_if_eq (tgt := 70) dX12_allOf_15 (by decide) g3 (fun q4 => ?_) (fun q4 => ?_)
    · have h := h.1 q4
      exact h
    · have h := h.2 q4
      refine V_iload_n 1 rfl rfl dX12_allOf_18 ?_
      refine V_iconst dX12_allOf_19 ?_
      obtain ⟨g5, h⟩ := h
      refine V_icmp_ne (tgt := 34) dX12_allOf_20 (by decide) g5 (by decide) (fun q6 => ?_) (fun q6 => ?_)
      · have h := h.1 q6
        exact h
      · have h := h.2 q6
        refine V_aload_n 0 rfl rfl dX12_allOf_23 ?_
        refine V_getR (f := 1) ci_X12 sh_69 rfl (by decide) (c1 := 70) rfl dX12_allOf_24 lk_RX12_f7 ?_
        refine V_iload 4 rfl dX12_allOf_27 ?_
        obtain ⟨g7, h⟩ := h
        refine V_iald sh_70 (by decide) g7 dX12_allOf_29 ?_
        refine V_iload_n 2 rfl rfl dX12_allOf_30 ?_
        obtain ⟨g8, h⟩ := h
        refine V_icmp_eq (tgt := 70) dX12_allOf_31 (by decide) (show inI (σ 70 v4.toNat) from (inI_sh hR0 sh_70 (by decide))) g8 (fun q9 => ?_) (fun q9 => ?_)
        · have h := h.1 q9
          exact h
        · have h := h.2 q9
          exact h
set_option maxHeartbeats 2000000 in
set_option maxRecDepth 20000 in
theorem rX12_allOf_34 {X : Cx} {v1 : Int} {v2 : Int} {v3 : Int} {v4 : Int} {σ : Sg} {Q : Int → Sg → Prop} (h : Rng σ → (inI v1) ∧ ((¬ v1 = 2 → GX12_allOf_50 X v1 v2 v3 v4 σ Q) ∧ (v1 = 2 → (0 ≤ v4 ∧ v4 < 8) ∧ (inI v2) ∧ (((σ 71 v4.toNat) = v2 → GX12_allOf_70 X v1 v2 v3 v4 σ Q) ∧ (¬ (σ 71 v4.toNat) = v2 → GX12_allOf_50 X v1 v2 v3 v4 σ Q))))) : GX12_allOf_34 X v1 v2 v3 v4 σ Q := by
  unfold GX12_allOf_34
  refine V_rng (fun hR0 => ?_)
  have h := h hR0
  refine V_iload_n 1 rfl rfl dX12_allOf_34 ?_
  refine V_iconst dX12_allOf_35 ?_
  obtain ⟨g1, h⟩ := h
  refine V_icmp_ne (tgt := 50) dX12_allOf_36 (by decide) g1 (by decide) (fun q2 => ?_) (fun q2 => ?_)
  · have h := h.1 q2
    exact h
  · have h := h.2 q2
    refine V_aload_n 0 rfl rfl dX12_allOf_39 ?_
    refine V_getR (f := 2) ci_X12 sh_69 rfl (by decide) (c1 := 71) rfl dX12_allOf_40 lk_RX12_f13 ?_
    refine V_iload 4 rfl dX12_allOf_43 ?_
    obtain ⟨g3, h⟩ := h
    refine V_iald sh_71 (by decide) g3 dX12_allOf_45 ?_
    refine V_iload_n 2 rfl rfl dX12_allOf_46 ?_
    obtain ⟨g4, h⟩ := h
    refine V_icmp_eq (tgt := 70) dX12_allOf_47 (by decide) (show inI (σ 71 v4.toNat) from (inI_sh hR0 sh_71 (by decide))) g4 (fun q5 => ?_) (fun q5 => ?_)
    · have h := h.1 q5
      exact h
    · have h := h.2 q5
      exact h
set_option maxHeartbeats 2000000 in
set_option maxRecDepth 20000 in
theorem rX12_allOf_50 {X : Cx} {v1 : Int} {v2 : Int} {v3 : Int} {v4 : Int} {σ : Sg} {Q : Int → Sg → Prop} (h : Rng σ → (inI v1) ∧ ((¬ v1 = 3 → GX12_allOf_74 X v1 v2 v3 v4 σ Q) ∧ (v1 = 3 → (0 ≤ v4 ∧ v4 < 8) ∧ ((¬ (zand (zshr (σ 73 v4.toNat) v2) 1) = 1 → GX12_allOf_74 X v1 v2 v3 v4 σ Q) ∧ ((zand (zshr (σ 73 v4.toNat) v2) 1) = 1 → GX12_allOf_70 X v1 v2 v3 v4 σ Q))))) : GX12_allOf_50 X v1 v2 v3 v4 σ Q := by
  unfold GX12_allOf_50
  refine V_rng (fun hR0 => ?_)
  have h := h hR0
  refine V_iload_n 1 rfl rfl dX12_allOf_50 ?_
  refine V_iconst dX12_allOf_51 ?_
  obtain ⟨g1, h⟩ := h
  refine V_icmp_ne (tgt := 74) dX12_allOf_52 (by decide) g1 (by decide) (fun q2 => ?_) (fun q2 => ?_)
  · have h := h.1 q2
    exact h
  · have h := h.2 q2
    refine V_aload_n 0 rfl rfl dX12_allOf_55 ?_
    refine V_getR (f := 4) ci_X12 sh_69 rfl (by decide) (c1 := 73) rfl dX12_allOf_56 lk_RX12_f19 ?_
    refine V_iload 4 rfl dX12_allOf_59 ?_
    obtain ⟨g3, h⟩ := h
    refine V_iald sh_73 (by decide) g3 dX12_allOf_61 ?_
    refine V_iload_n 2 rfl rfl dX12_allOf_62 ?_
    refine V_ishr dX12_allOf_63 ?_
    refine V_iconst dX12_allOf_64 ?_
    refine V_iand dX12_allOf_65 ?_
    refine V_iconst dX12_allOf_66 ?_
    refine V_icmp_ne (tgt := 74) dX12_allOf_67 (by decide) (inI_z _) (by decide) (fun q4 => ?_) (fun q4 => ?_)
    · have h := h.1 q4
      exact h
    · have h := h.2 q4
      exact h
set_option maxHeartbeats 2000000 in
set_option maxRecDepth 20000 in
theorem rX12_allOf_70 {X : Cx} {v1 : Int} {v2 : Int} {v3 : Int} {v4 : Int} {σ : Sg} {Q : Int → Sg → Prop} (h : Rng σ → GX12_allOf_75 X v1 v2 v3 v4 1 σ Q) : GX12_allOf_70 X v1 v2 v3 v4 σ Q := by
  unfold GX12_allOf_70
  refine V_rng (fun hR0 => ?_)
  have h := h hR0
  refine V_iconst dX12_allOf_70 ?_
  refine V_goto (tgt := 75) dX12_allOf_71 (by decide) ?_
  exact h
set_option maxHeartbeats 2000000 in
set_option maxRecDepth 20000 in
theorem rX12_allOf_74 {X : Cx} {v1 : Int} {v2 : Int} {v3 : Int} {v4 : Int} {σ : Sg} {Q : Int → Sg → Prop} (h : Rng σ → GX12_allOf_75 X v1 v2 v3 v4 0 σ Q) : GX12_allOf_74 X v1 v2 v3 v4 σ Q := by
  unfold GX12_allOf_74
  refine V_rng (fun hR0 => ?_)
  have h := h hR0
  refine V_iconst dX12_allOf_74 ?_
  exact h
set_option maxHeartbeats 2000000 in
set_option maxRecDepth 20000 in
theorem rX12_allOf_75 {X : Cx} {v1 : Int} {v2 : Int} {v3 : Int} {v4 : Int} {s0 : Int} {σ : Sg} {Q : Int → Sg → Prop} (h : Rng σ → (inI s0) ∧ ((s0 = 0 → GX12_allOf_91 X v1 v2 v3 v4 s0 0 v3 σ Q) ∧ (¬ s0 = 0 → GX12_allOf_91 X v1 v2 v3 v4 s0 (zshl 1 v4) v3 σ Q))) : GX12_allOf_75 X v1 v2 v3 v4 s0 σ Q := by
  unfold GX12_allOf_75
  refine V_rng (fun hR0 => ?_)
  have h := h hR0
  refine V_istore (L' := [(5, .int (gI s0)), (0, .ref (cxA X 69)), (1, .int (gI v1)), (2, .int (gI v2)), (3, .int (gI v3)), (4, .int (gI v4))]) (by decide) rfl dX12_allOf_75 ?_
  refine V_iload_n 4 rfl rfl dX12_allOf_77 ?_
  refine V_iload 0 rfl dX12_allOf_78 ?_
  obtain ⟨g1, h⟩ := h
  refine V_if_eq (tgt := 90) dX12_allOf_80 (by decide) g1 (fun q2 => ?_) (fun q2 => ?_)
  · have h := h.1 q2
    refine V_iconst dX12_allOf_90 ?_
    exact V_sub [1, 2, 3, 4, 5, 0] rfl h
  · have h := h.2 q2
    refine V_iconst dX12_allOf_83 ?_
    refine V_iload 5 rfl dX12_allOf_84 ?_
    refine V_ishl dX12_allOf_86 ?_
    refine V_goto (tgt := 91) dX12_allOf_87 (by decide) ?_
    exact V_sub [1, 2, 3, 4, 5, 0] rfl h
set_option maxHeartbeats 2000000 in
set_option maxRecDepth 20000 in
theorem rX12_allOf_91 {X : Cx} {v1 : Int} {v2 : Int} {v3 : Int} {v4 : Int} {v5 : Int} {s0 : Int} {s1 : Int} {σ : Sg} {Q : Int → Sg → Prop} (h : Rng σ → GX12_allOf_5 X v1 v2 (zor s1 s0) (v4 + 1) σ Q) : GX12_allOf_91 X v1 v2 v3 v4 v5 s0 s1 σ Q := by
  unfold GX12_allOf_91
  refine V_rng (fun hR0 => ?_)
  have h := h hR0
  refine V_ior dX12_allOf_91 ?_
  refine V_istore_n (L' := [(3, .int (gI (zor s1 s0))), (0, .ref (cxA X 69)), (1, .int (gI v1)), (2, .int (gI v2)), (4, .int (gI v4)), (5, .int (gI v5))]) rfl (by decide) rfl dX12_allOf_92 ?_
  refine V_iinc (L' := [(4, .int (gI (v4 + 1))), (3, .int (gI (zor s1 s0))), (0, .ref (cxA X 69)), (1, .int (gI v1)), (2, .int (gI v2)), (5, .int (gI v5))]) 4 rfl (by decide) rfl dX12_allOf_93 ?_
  refine V_goto (tgt := 5) dX12_allOf_96 (by decide) ?_
  exact V_sub [2, 3, 4, 1, 0] rfl h
theorem eX12_allOf {X : Cx} {v1 : Int} {v2 : Int} {σ : Sg} {Q : Int → Sg → Prop} (h : GX12_allOf_0 X v1 v2 σ Q) : KX12_allOf X v1 v2 σ Q := V_enter (by decide) (Nat.le_of_ble_eq_true rfl) rfl h
def GX12_bySize_0 (X : Cx) (v1 : Int) (v2 : Int) (σ : Sg) (Q : Int → Sg → Prop) : Prop := VV X mX12_bySize 0 [(0, .ref (cxA X 69)), (1, .int (gI v1)), (2, .int (gI v2))] [] σ Q
def GX12_bySize_8 (X : Cx) (v1 : Int) (v2 : Int) (v3 : Int) (v4 : Int) (v5 : Int) (σ : Sg) (Q : Int → Sg → Prop) : Prop := VV X mX12_bySize 8 [(0, .ref (cxA X 69)), (1, .int (gI v1)), (2, .int (gI v2)), (3, .int (gI v3)), (4, .int (gI v4)), (5, .int (gI v5))] [] σ Q
def GX12_bySize_62 (X : Cx) (v1 : Int) (v2 : Int) (v3 : Int) (v4 : Int) (v5 : Int) (σ : Sg) (Q : Int → Sg → Prop) : Prop := VV X mX12_bySize 62 [(0, .ref (cxA X 69)), (1, .int (gI v1)), (2, .int (gI v2)), (3, .int (gI v3)), (4, .int (gI v4)), (5, .int (gI v5))] [] σ Q
def GX12_bySize_66 (X : Cx) (v1 : Int) (v2 : Int) (v3 : Int) (v4 : Int) (v5 : Int) (σ : Sg) (Q : Int → Sg → Prop) : Prop := VV X mX12_bySize 66 [(0, .ref (cxA X 69)), (1, .int (gI v1)), (2, .int (gI v2)), (3, .int (gI v3)), (4, .int (gI v4)), (5, .int (gI v5))] [] σ Q
def GX12_bySize_67 (X : Cx) (v1 : Int) (v2 : Int) (v3 : Int) (v4 : Int) (v5 : Int) (s0 : Int) (σ : Sg) (Q : Int → Sg → Prop) : Prop := VV X mX12_bySize 67 [(0, .ref (cxA X 69)), (1, .int (gI v1)), (2, .int (gI v2)), (3, .int (gI v3)), (4, .int (gI v4)), (5, .int (gI v5))] [.int (gI s0)] σ Q
def GX12_bySize_103 (X : Cx) (v1 : Int) (v2 : Int) (v3 : Int) (v4 : Int) (v5 : Int) (v6 : Int) (s0 : Int) (σ : Sg) (Q : Int → Sg → Prop) : Prop := VV X mX12_bySize 103 [(0, .ref (cxA X 69)), (1, .int (gI v1)), (2, .int (gI v2)), (3, .int (gI v3)), (4, .int (gI v4)), (5, .int (gI v5)), (6, .int (gI v6))] [.int (gI s0)] σ Q
def GX12_bySize_121 (X : Cx) (v1 : Int) (v2 : Int) (v3 : Int) (v4 : Int) (v5 : Int) (v6 : Int) (s0 : Int) (σ : Sg) (Q : Int → Sg → Prop) : Prop := VV X mX12_bySize 121 [(0, .ref (cxA X 69)), (1, .int (gI v1)), (2, .int (gI v2)), (3, .int (gI v3)), (4, .int (gI v4)), (5, .int (gI v5)), (6, .int (gI v6))] [.int (gI s0)] σ Q
def GX12_bySize_123 (X : Cx) (v1 : Int) (v2 : Int) (v3 : Int) (v4 : Int) (v5 : Int) (σ : Sg) (Q : Int → Sg → Prop) : Prop := VV X mX12_bySize 123 [(0, .ref (cxA X 69)), (1, .int (gI v1)), (2, .int (gI v2)), (3, .int (gI v3)), (4, .int (gI v4)), (5, .int (gI v5))] [] σ Q
set_option maxHeartbeats 2000000 in
set_option maxRecDepth 20000 in
theorem rX12_bySize_0 {X : Cx} {v1 : Int} {v2 : Int} {σ : Sg} {Q : Int → Sg → Prop} (h : Rng σ → GX12_bySize_8 X v1 v2 0 0 0 σ Q) : GX12_bySize_0 X v1 v2 σ Q := by
  unfold GX12_bySize_0
  refine V_rng (fun hR0 => ?_)
  have h := h hR0
  refine V_iconst dX12_bySize_0 ?_
  refine V_istore_n (L' := [(3, .int (gI 0)), (0, .ref (cxA X 69)), (1, .int (gI v1)), (2, .int (gI v2))]) rfl (by decide) rfl dX12_bySize_1 ?_
  refine V_iconst dX12_bySize_2 ?_
  refine V_istore (L' := [(4, .int (gI 0)), (3, .int (gI 0)), (0, .ref (cxA X 69)), (1, .int (gI v1)), (2, .int (gI v2))]) (by decide) rfl dX12_bySize_3 ?_
  refine V_iconst dX12_bySize_5 ?_
  refine V_istore (L' := [(5, .int (gI 0)), (4, .int (gI 0)), (3, .int (gI 0)), (0, .ref (cxA X 69)), (1, .int (gI v1)), (2, .int (gI v2))]) (by decide) rfl dX12_bySize_6 ?_
  exact V_sub [3, 4, 5, 2, 1, 0] rfl h
set_option maxHeartbeats 2000000 in
set_option maxRecDepth 20000 in
theorem rX12_bySize_8 {X : Cx} {v1 : Int} {v2 : Int} {v3 : Int} {v4 : Int} {v5 : Int} {σ : Sg} {Q : Int → Sg → Prop} (h : Rng σ → (inI v5) ∧ (((σ 69 0) ≤ v5 → Q v3 σ) ∧ (v5 < (σ 69 0) → ((¬ (zand (zshr v1 v5) 1) = 1 → GX12_bySize_123 X v1 v2 v3 v4 v5 σ Q) ∧ ((zand (zshr v1 v5) 1) = 1 → (inI v3) ∧ ((v3 = 0 → GX12_bySize_62 X v1 v2 v3 v4 v5 σ Q) ∧ (¬ v3 = 0 → (inI v2) ∧ ((v2 = 0 → (0 ≤ v5 ∧ v5 < 8) ∧ (inI v4) ∧ ((v4 ≤ (σ 72 v5.toNat) → GX12_bySize_66 X v1 v2 v3 v4 v5 σ Q) ∧ ((σ 72 v5.toNat) < v4 → GX12_bySize_62 X v1 v2 v3 v4 v5 σ Q))) ∧ (¬ v2 = 0 → (0 ≤ v5 ∧ v5 < 8) ∧ (inI v4) ∧ (((σ 72 v5.toNat) ≤ v4 → GX12_bySize_66 X v1 v2 v3 v4 v5 σ Q) ∧ (v4 < (σ 72 v5.toNat) → GX12_bySize_62 X v1 v2 v3 v4 v5 σ Q))))))))))) : GX12_bySize_8 X v1 v2 v3 v4 v5 σ Q := by
  unfold GX12_bySize_8
  refine V_rng (fun hR0 => ?_)
  have h := h hR0
  refine V_iload 5 rfl dX12_bySize_8 ?_
  refine V_aload_n 0 rfl rfl dX12_bySize_10 ?_
  refine V_getI (f := 0) ci_X12 sh_69 rfl (by decide) dX12_bySize_11 lk_RX12_f98 ?_
  obtain ⟨g1, h⟩ := h
  refine V_icmp_ge (tgt := 129) dX12_bySize_14 (by decide) g1 (show inI (σ 69 0) from (hR0.1 69 0 (by decide))) (fun q2 => ?_) (fun q2 => ?_)
  · have h := h.1 q2
    refine V_iload_n 3 rfl rfl dX12_bySize_129 ?_
    exact V_iret rfl (fun _ q => by cases q) (vp_nar_int _) dX12_bySize_130 h
  · have h := h.2 q2
    refine V_iload_n 1 rfl rfl dX12_bySize_17 ?_
    refine V_iload 5 rfl dX12_bySize_18 ?_
    refine V_ishr dX12_bySize_20 ?_
    refine V_iconst dX12_bySize_21 ?_
    refine V_iand dX12_bySize_22 ?_
    refine V_iconst dX12_bySize_23 ?_
    refine V_icmp_ne (tgt := 123) dX12_bySize_24 (by decide) (inI_z _) (by decide) (fun q3 => ?_) (fun q3 => ?_)
    · have h := h.1 q3
      exact h
    · have h := h.2 q3
      refine V_iload_n 3 rfl rfl dX12_bySize_27 ?_
      obtain ⟨g4, h⟩ := h
      refine V_if_eq (tgt := 62) dX12_bySize_28 (by decide) g4 (fun q5 => ?_) (fun q5 => ?_)
      · have h := h.1 q5
        exact h
      · have h := h.2 q5
        refine V_iload_n 2 rfl rfl dX12_bySize_31 ?_
        obtain ⟨g6, h⟩ := h
        refine V_if_eq (tgt := 50) dX12_bySize_32 (by decide) g6 (fun q7 => ?_) (fun q7 => ?_)
        · have h := h.1 q7
          refine V_aload_n 0 rfl rfl dX12_bySize_50 ?_
          refine V_getR (f := 3) ci_X12 sh_69 rfl (by decide) (c1 := 72) rfl dX12_bySize_51 lk_RX12_f16 ?_
          refine V_iload 5 rfl dX12_bySize_54 ?_
          obtain ⟨g8, h⟩ := h
          refine V_iald sh_72 (by decide) g8 dX12_bySize_56 ?_
          refine V_iload 4 rfl dX12_bySize_57 ?_
          obtain ⟨g9, h⟩ := h
          refine V_icmp_ge (tgt := 66) dX12_bySize_59 (by decide) (show inI (σ 72 v5.toNat) from (inI_sh hR0 sh_72 (by decide))) g9 (fun q10 => ?_) (fun q10 => ?_)
          · have h := h.1 q10
            exact h
          · have h := h.2 q10
            exact h
        · have h := h.2 q7
          refine V_aload_n 0 rfl rfl dX12_bySize_35 ?_
          refine V_getR (f := 3) ci_X12 sh_69 rfl (by decide) (c1 := 72) rfl dX12_bySize_36 lk_RX12_f16 ?_
          refine V_iload 5 rfl dX12_bySize_39 ?_
          obtain ⟨g11, h⟩ := h
          refine V_iald sh_72 (by decide) g11 dX12_bySize_41 ?_
          refine V_iload 4 rfl dX12_bySize_42 ?_
          obtain ⟨g12, h⟩ := h
          refine V_icmp_le (tgt := 66) dX12_bySize_44 (by decide) (show inI (σ 72 v5.toNat) from (inI_sh hR0 sh_72 (by decide))) g12 (fun q13 => ?_) (fun q13 => ?_)
          · have h := h.1 q13
            exact h
          · have h := h.2 q13
            refine V_goto (tgt := 62) dX12_bySize_47 (by decide) ?_
            exact h
set_option maxHeartbeats 2000000 in
set_option maxRecDepth 20000 in
theorem rX12_bySize_62 {X : Cx} {v1 : Int} {v2 : Int} {v3 : Int} {v4 : Int} {v5 : Int} {σ : Sg} {Q : Int → Sg → Prop} (h : Rng σ → GX12_bySize_67 X v1 v2 v3 v4 v5 1 σ Q) : GX12_bySize_62 X v1 v2 v3 v4 v5 σ Q := by
  unfold GX12_bySize_62
  refine V_rng (fun hR0 => ?_)
  have h := h hR0
  refine V_iconst dX12_bySize_62 ?_
  refine V_goto (tgt := 67) dX12_bySize_63 (by decide) ?_
  exact h
set_option maxHeartbeats 2000000 in
set_option maxRecDepth 20000 in
theorem rX12_bySize_66 {X : Cx} {v1 : Int} {v2 : Int} {v3 : Int} {v4 : Int} {v5 : Int} {σ : Sg} {Q : Int → Sg → Prop} (h : Rng σ → GX12_bySize_67 X v1 v2 v3 v4 v5 0 σ Q) : GX12_bySize_66 X v1 v2 v3 v4 v5 σ Q := by
  unfold GX12_bySize_66
  refine V_rng (fun hR0 => ?_)
  have h := h hR0
  refine V_iconst dX12_bySize_66 ?_
  exact h
set_option maxHeartbeats 2000000 in
set_option maxRecDepth 20000 in
theorem rX12_bySize_67 {X : Cx} {v1 : Int} {v2 : Int} {v3 : Int} {v4 : Int} {v5 : Int} {s0 : Int} {σ : Sg} {Q : Int → Sg → Prop} (h : Rng σ → (inI s0) ∧ ((s0 = 0 → (0 ≤ v5 ∧ v5 < 8) ∧ (inI v4) ∧ ((¬ (σ 72 v5.toNat) = v4 → GX12_bySize_103 X v1 v2 v3 v4 v5 s0 v3 σ Q) ∧ ((σ 72 v5.toNat) = v4 → GX12_bySize_103 X v1 v2 v3 v4 v5 s0 (zor v3 (zshl 1 v5)) σ Q))) ∧ (¬ s0 = 0 → GX12_bySize_103 X v1 v2 v3 v4 v5 s0 (zshl 1 v5) σ Q))) : GX12_bySize_67 X v1 v2 v3 v4 v5 s0 σ Q := by
  unfold GX12_bySize_67
  refine V_rng (fun hR0 => ?_)
  have h := h hR0
  refine V_istore (L' := [(6, .int (gI s0)), (0, .ref (cxA X 69)), (1, .int (gI v1)), (2, .int (gI v2)), (3, .int (gI v3)), (4, .int (gI v4)), (5, .int (gI v5))]) (by decide) rfl dX12_bySize_67 ?_
  refine V_iload 0 rfl dX12_bySize_69 ?_
  obtain ⟨g1, h⟩ := h
  refine V_if_eq (tgt := 81) dX12_bySize_71 (by decide) g1 (fun q2 => ?_) (fun q2 => ?_)
  · have h := h.1 q2
    refine V_aload_n 1 rfl rfl dX12_bySize_81 ?_
    refine V_getR (f := 3) ci_X12 sh_69 rfl (by decide) (c1 := 72) rfl dX12_bySize_82 lk_RX12_f16 ?_
    refine V_iload 6 rfl dX12_bySize_85 ?_
    obtain ⟨g3, h⟩ := h
    refine V_iald sh_72 (by decide) g3 dX12_bySize_87 ?_
    refine V_iload 5 rfl dX12_bySize_88 ?_
    obtain ⟨g4, h⟩ := h
    refine V_icmp_ne (tgt := 102) dX12_bySize_90 (by decide) (show inI (σ 72 v5.toNat) from (inI_sh hR0 sh_72 (by decide))) g4 (fun q5 => ?_) (fun q5 => ?_)
    · have h := h.1 q5
      refine V_iload_n 4 rfl rfl dX12_bySize_102 ?_
      exact V_sub [1, 2, 3, 4, 5, 6, 0] rfl h
    · have h := h.2 q5
      refine V_iload_n 4 rfl rfl dX12_bySize_93 ?_
      refine V_iconst dX12_bySize_94 ?_
      refine V_iload 6 rfl dX12_bySize_95 ?_
      refine V_ishl dX12_bySize_97 ?_
      refine V_ior dX12_bySize_98 ?_
      refine V_goto (tgt := 103) dX12_bySize_99 (by decide) ?_
      exact V_sub [1, 2, 3, 4, 5, 6, 0] rfl h
  · have h := h.2 q2
    refine V_iconst dX12_bySize_74 ?_
    refine V_iload 6 rfl dX12_bySize_75 ?_
    refine V_ishl dX12_bySize_77 ?_
    refine V_goto (tgt := 103) dX12_bySize_78 (by decide) ?_
    exact V_sub [1, 2, 3, 4, 5, 6, 0] rfl h
set_option maxHeartbeats 2000000 in
set_option maxRecDepth 20000 in
theorem rX12_bySize_103 {X : Cx} {v1 : Int} {v2 : Int} {v3 : Int} {v4 : Int} {v5 : Int} {v6 : Int} {s0 : Int} {σ : Sg} {Q : Int → Sg → Prop} (h : Rng σ → (inI v6) ∧ ((v6 = 0 → GX12_bySize_121 X v1 v2 s0 v4 v5 v6 v4 σ Q) ∧ (¬ v6 = 0 → (0 ≤ v5 ∧ v5 < 8) ∧ GX12_bySize_121 X v1 v2 s0 v4 v5 v6 (σ 72 v5.toNat) σ Q))) : GX12_bySize_103 X v1 v2 v3 v4 v5 v6 s0 σ Q := by
  unfold GX12_bySize_103
  refine V_rng (fun hR0 => ?_)
  have h := h hR0
  refine V_istore_n (L' := [(3, .int (gI s0)), (0, .ref (cxA X 69)), (1, .int (gI v1)), (2, .int (gI v2)), (4, .int (gI v4)), (5, .int (gI v5)), (6, .int (gI v6))]) rfl (by decide) rfl dX12_bySize_103 ?_
  refine V_iload 6 rfl dX12_bySize_104 ?_
  obtain ⟨g1, h⟩ := h
  refine V_if_eq (tgt := 119) dX12_bySize_106 (by decide) g1 (fun q2 => ?_) (fun q2 => ?_)
  · have h := h.1 q2
    refine V_iload 4 rfl dX12_bySize_119 ?_
    exact V_sub [1, 2, 3, 0, 4, 5, 6] rfl h
  · have h := h.2 q2
    refine V_aload_n 1 rfl rfl dX12_bySize_109 ?_
    refine V_getR (f := 3) ci_X12 sh_69 rfl (by decide) (c1 := 72) rfl dX12_bySize_110 lk_RX12_f16 ?_
    refine V_iload 5 rfl dX12_bySize_113 ?_
    obtain ⟨g3, h⟩ := h
    refine V_iald sh_72 (by decide) g3 dX12_bySize_115 ?_
    refine V_goto (tgt := 121) dX12_bySize_116 (by decide) ?_
    exact V_sub [1, 2, 3, 0, 4, 5, 6] rfl h
set_option maxHeartbeats 2000000 in
set_option maxRecDepth 20000 in
theorem rX12_bySize_121 {X : Cx} {v1 : Int} {v2 : Int} {v3 : Int} {v4 : Int} {v5 : Int} {v6 : Int} {s0 : Int} {σ : Sg} {Q : Int → Sg → Prop} (h : Rng σ → GX12_bySize_123 X v1 v2 v3 s0 v5 σ Q) : GX12_bySize_121 X v1 v2 v3 v4 v5 v6 s0 σ Q := by
  unfold GX12_bySize_121
  refine V_rng (fun hR0 => ?_)
  have h := h hR0
  refine V_istore (L' := [(4, .int (gI s0)), (0, .ref (cxA X 69)), (1, .int (gI v1)), (2, .int (gI v2)), (3, .int (gI v3)), (5, .int (gI v5)), (6, .int (gI v6))]) (by decide) rfl dX12_bySize_121 ?_
  exact V_sub [1, 2, 3, 4, 0, 5] rfl h
set_option maxHeartbeats 2000000 in
set_option maxRecDepth 20000 in
theorem rX12_bySize_123 {X : Cx} {v1 : Int} {v2 : Int} {v3 : Int} {v4 : Int} {v5 : Int} {σ : Sg} {Q : Int → Sg → Prop} (h : Rng σ → GX12_bySize_8 X v1 v2 v3 v4 (v5 + 1) σ Q) : GX12_bySize_123 X v1 v2 v3 v4 v5 σ Q := by
  unfold GX12_bySize_123
  refine V_rng (fun hR0 => ?_)
  have h := h hR0
  refine V_iinc (L' := [(5, .int (gI (v5 + 1))), (0, .ref (cxA X 69)), (1, .int (gI v1)), (2, .int (gI v2)), (3, .int (gI v3)), (4, .int (gI v4))]) 5 rfl (by decide) rfl dX12_bySize_123 ?_
  refine V_goto (tgt := 8) dX12_bySize_126 (by decide) ?_
  exact V_sub [1, 2, 3, 4, 5, 0] rfl h
theorem eX12_bySize {X : Cx} {v1 : Int} {v2 : Int} {σ : Sg} {Q : Int → Sg → Prop} (h : GX12_bySize_0 X v1 v2 σ Q) : KX12_bySize X v1 v2 σ Q := V_enter (by decide) (Nat.le_of_ble_eq_true rfl) rfl h
def GX12_leftmost_0 (X : Cx) (v1 : Int) (σ : Sg) (Q : Int → Sg → Prop) : Prop := VV X mX12_leftmost 0 [(0, .ref (cxA X 69)), (1, .int (gI v1))] [] σ Q
def GX12_leftmost_4 (X : Cx) (v1 : Int) (v2 : Int) (v3 : Int) (σ : Sg) (Q : Int → Sg → Prop) : Prop := VV X mX12_leftmost 4 [(0, .ref (cxA X 69)), (1, .int (gI v1)), (2, .int (gI v2)), (3, .int (gI v3))] [] σ Q
def GX12_leftmost_41 (X : Cx) (v1 : Int) (v2 : Int) (v3 : Int) (σ : Sg) (Q : Int → Sg → Prop) : Prop := VV X mX12_leftmost 41 [(0, .ref (cxA X 69)), (1, .int (gI v1)), (2, .int (gI v2)), (3, .int (gI v3))] [] σ Q
def GX12_leftmost_45 (X : Cx) (v1 : Int) (v2 : Int) (v3 : Int) (σ : Sg) (Q : Int → Sg → Prop) : Prop := VV X mX12_leftmost 45 [(0, .ref (cxA X 69)), (1, .int (gI v1)), (2, .int (gI v2)), (3, .int (gI v3))] [] σ Q
def GX12_leftmost_46 (X : Cx) (v1 : Int) (v2 : Int) (v3 : Int) (s0 : Int) (σ : Sg) (Q : Int → Sg → Prop) : Prop := VV X mX12_leftmost 46 [(0, .ref (cxA X 69)), (1, .int (gI v1)), (2, .int (gI v2)), (3, .int (gI v3))] [.int (gI s0)] σ Q
set_option maxHeartbeats 2000000 in
set_option maxRecDepth 20000 in
theorem rX12_leftmost_0 {X : Cx} {v1 : Int} {σ : Sg} {Q : Int → Sg → Prop} (h : Rng σ → GX12_leftmost_4 X v1 ((-1)) 0 σ Q) : GX12_leftmost_0 X v1 σ Q := by
  unfold GX12_leftmost_0
  refine V_rng (fun hR0 => ?_)
  have h := h hR0
  refine V_iconst dX12_leftmost_0 ?_
  refine V_istore_n (L' := [(2, .int (gI ((-1)))), (0, .ref (cxA X 69)), (1, .int (gI v1))]) rfl (by decide) rfl dX12_leftmost_1 ?_
  refine V_iconst dX12_leftmost_2 ?_
  refine V_istore_n (L' := [(3, .int (gI 0)), (2, .int (gI ((-1)))), (0, .ref (cxA X 69)), (1, .int (gI v1))]) rfl (by decide) rfl dX12_leftmost_3 ?_
  exact V_sub [2, 3, 1, 0] rfl h
set_option maxHeartbeats 2000000 in
set_option maxRecDepth 20000 in
theorem rX12_leftmost_4 {X : Cx} {v1 : Int} {v2 : Int} {v3 : Int} {σ : Sg} {Q : Int → Sg → Prop} (h : Rng σ → (inI v3) ∧ (((σ 69 0) ≤ v3 → (inI v2) ∧ ((¬ v2 = ((-1)) → Q (zshl 1 v2) σ) ∧ (v2 = ((-1)) → Q 0 σ))) ∧ (v3 < (σ 69 0) → ((¬ (zand (zshr v1 v3) 1) = 1 → GX12_leftmost_45 X v1 v2 v3 σ Q) ∧ ((zand (zshr v1 v3) 1) = 1 → (inI v2) ∧ ((v2 = ((-1)) → GX12_leftmost_41 X v1 v2 v3 σ Q) ∧ (¬ v2 = ((-1)) → (0 ≤ v3 ∧ v3 < 8) ∧ (0 ≤ v2 ∧ v2 < 8) ∧ (((σ 74 v2.toNat) ≤ (σ 74 v3.toNat) → GX12_leftmost_45 X v1 v2 v3 σ Q) ∧ ((σ 74 v3.toNat) < (σ 74 v2.toNat) → GX12_leftmost_41 X v1 v2 v3 σ Q))))))))) : GX12_leftmost_4 X v1 v2 v3 σ Q := by
  unfold GX12_leftmost_4
  refine V_rng (fun hR0 => ?_)
  have h := h hR0
  refine V_iload_n 3 rfl rfl dX12_leftmost_4 ?_
  refine V_aload_n 0 rfl rfl dX12_leftmost_5 ?_
  refine V_getI (f := 0) ci_X12 sh_69 rfl (by decide) dX12_leftmost_6 lk_RX12_f98 ?_
  obtain ⟨g1, h⟩ := h
  refine V_icmp_ge (tgt := 53) dX12_leftmost_9 (by decide) g1 (show inI (σ 69 0) from (hR0.1 69 0 (by decide))) (fun q2 => ?_) (fun q2 => ?_)
  · have h := h.1 q2
    refine V_iload_n 2 rfl rfl dX12_leftmost_53 ?_
    refine V_iconst dX12_leftmost_54 ?_
    obtain ⟨g3, h⟩ := h
    refine V_icmp_ne (tgt := 62) dX12_leftmost_55 (by decide) g3 (by decide) (fun q4 => ?_) (fun q4 => ?_)
    · have h := h.1 q4
      refine V_iconst dX12_leftmost_62 ?_
      refine V_iload_n 2 rfl rfl dX12_leftmost_63 ?_
      refine V_ishl dX12_leftmost_64 ?_
      exact V_iret rfl (fun _ q => by cases q) (vp_nar_int _) dX12_leftmost_65 h
    · have h := h.2 q4
      refine V_iconst dX12_leftmost_58 ?_
      refine V_goto (tgt := 65) dX12_leftmost_59 (by decide) ?_
      exact V_iret rfl (fun _ q => by cases q) (vp_nar_int _) dX12_leftmost_65 h
  · have h := h.2 q2
    refine V_iload_n 1 rfl rfl dX12_leftmost_12 ?_
    refine V_iload_n 3 rfl rfl dX12_leftmost_13 ?_
    refine V_ishr dX12_leftmost_14 ?_
    refine V_iconst dX12_leftmost_15 ?_
    refine V_iand dX12_leftmost_16 ?_
    refine V_iconst dX12_leftmost_17 ?_
    refine V_icmp_ne (tgt := 45) dX12_leftmost_18 (by decide) (inI_z _) (by decide) (fun q5 => ?_) (fun q5 => ?_)
    · have h := h.1 q5
      exact h
    · have h := h.2 q5
      refine V_iload_n 2 rfl rfl dX12_leftmost_21 ?_
      refine V_iconst dX12_leftmost_22 ?_
      obtain ⟨g6, h⟩ := h
      refine V_icmp_eq (tgt := 41) dX12_leftmost_23 (by decide) g6 (by decide) (fun q7 => ?_) (fun q7 => ?_)
      · have h := h.1 q7
        exact h
      · have h := h.2 q7
        refine V_aload_n 0 rfl rfl dX12_leftmost_26 ?_
        refine V_getR (f := 5) ci_X12 sh_69 rfl (by decide) (c1 := 74) rfl dX12_leftmost_27 lk_RX12_f22 ?_
        refine V_iload_n 3 rfl rfl dX12_leftmost_30 ?_
        obtain ⟨g8, h⟩ := h
        refine V_iald sh_74 (by decide) g8 dX12_leftmost_31 ?_
        refine V_aload_n 0 rfl rfl dX12_leftmost_32 ?_
        refine V_getR (f := 5) ci_X12 sh_69 rfl (by decide) (c1 := 74) rfl dX12_leftmost_33 lk_RX12_f22 ?_
        refine V_iload_n 2 rfl rfl dX12_leftmost_36 ?_
        obtain ⟨g9, h⟩ := h
        refine V_iald sh_74 (by decide) g9 dX12_leftmost_37 ?_
        refine V_icmp_ge (tgt := 45) dX12_leftmost_38 (by decide) (show inI (σ 74 v3.toNat) from (inI_sh hR0 sh_74 (by decide))) (show inI (σ 74 v2.toNat) from (inI_sh hR0 sh_74 (by decide))) (fun q10 => ?_) (fun q10 => ?_)
        · have h := h.1 q10
          exact h
        · have h := h.2 q10
          exact h
set_option maxHeartbeats 2000000 in
set_option maxRecDepth 20000 in
theorem rX12_leftmost_41 {X : Cx} {v1 : Int} {v2 : Int} {v3 : Int} {σ : Sg} {Q : Int → Sg → Prop} (h : Rng σ → GX12_leftmost_46 X v1 v2 v3 v3 σ Q) : GX12_leftmost_41 X v1 v2 v3 σ Q := by
  unfold GX12_leftmost_41
  refine V_rng (fun hR0 => ?_)
  have h := h hR0
  refine V_iload_n 3 rfl rfl dX12_leftmost_41 ?_
  refine V_goto (tgt := 46) dX12_leftmost_42 (by decide) ?_
  exact h
set_option maxHeartbeats 2000000 in
set_option maxRecDepth 20000 in
theorem rX12_leftmost_45 {X : Cx} {v1 : Int} {v2 : Int} {v3 : Int} {σ : Sg} {Q : Int → Sg → Prop} (h : Rng σ → GX12_leftmost_46 X v1 v2 v3 v2 σ Q) : GX12_leftmost_45 X v1 v2 v3 σ Q := by
  unfold GX12_leftmost_45
  refine V_rng (fun hR0 => ?_)
  have h := h hR0
  refine V_iload_n 2 rfl rfl dX12_leftmost_45 ?_
  exact h
set_option maxHeartbeats 2000000 in
set_option maxRecDepth 20000 in
theorem rX12_leftmost_46 {X : Cx} {v1 : Int} {v2 : Int} {v3 : Int} {s0 : Int} {σ : Sg} {Q : Int → Sg → Prop} (h : Rng σ → GX12_leftmost_4 X v1 s0 (v3 + 1) σ Q) : GX12_leftmost_46 X v1 v2 v3 s0 σ Q := by
  unfold GX12_leftmost_46
  refine V_rng (fun hR0 => ?_)
  have h := h hR0
  refine V_istore_n (L' := [(2, .int (gI s0)), (0, .ref (cxA X 69)), (1, .int (gI v1)), (3, .int (gI v3))]) rfl (by decide) rfl dX12_leftmost_46 ?_
  refine V_iinc (L' := [(3, .int (gI (v3 + 1))), (2, .int (gI s0)), (0, .ref (cxA X 69)), (1, .int (gI v1))]) 3 rfl (by decide) rfl dX12_leftmost_47 ?_
  refine V_goto (tgt := 4) dX12_leftmost_50 (by decide) ?_
  exact V_sub [2, 3, 1, 0] rfl h
theorem eX12_leftmost {X : Cx} {v1 : Int} {σ : Sg} {Q : Int → Sg → Prop} (h : GX12_leftmost_0 X v1 σ Q) : KX12_leftmost X v1 σ Q := V_enter (by decide) (Nat.le_of_ble_eq_true rfl) rfl h
def GX12_made_0 (X : Cx) (v1 : Int) (v2 : Int) (v3 : Int) (σ : Sg) (Q : Int → Sg → Prop) : Prop := VV X mX12_made 0 [(0, .ref (cxA X 69)), (1, .int (gI v1)), (2, .int (gI v2)), (3, .int (gI v3))] [] σ Q
def GX12_made_86 (X : Cx) (v1 : Int) (v2 : Int) (v3 : Int) (v4 : Int) (v5 : Int) (σ : Sg) (Q : Int → Sg → Prop) : Prop := VV X mX12_made 86 [(0, .ref (cxA X 69)), (1, .int (gI v1)), (2, .int (gI v2)), (3, .int (gI v3)), (4, .int (gI v4)), (5, .int (gI v5))] [] σ Q
def GX12_made_116 (X : Cx) (v1 : Int) (v2 : Int) (v3 : Int) (v4 : Int) (v5 : Int) (s0 : Int) (s1 : Int) (σ : Sg) (Q : Int → Sg → Prop) : Prop := VV X mX12_made 116 [(0, .ref (cxA X 69)), (1, .int (gI v1)), (2, .int (gI v2)), (3, .int (gI v3)), (4, .int (gI v4)), (5, .int (gI v5))] [.int (gI s0), .int (gI s1)] σ Q
def GX12_made_131 (X : Cx) (v1 : Int) (v2 : Int) (v3 : Int) (v4 : Int) (v5 : Int) (σ : Sg) (Q : Int → Sg → Prop) : Prop := VV X mX12_made 131 [(0, .ref (cxA X 69)), (1, .int (gI v1)), (2, .int (gI v2)), (3, .int (gI v3)), (4, .int (gI v4)), (5, .int (gI v5))] [] σ Q
def GX12_made_162 (X : Cx) (v1 : Int) (v2 : Int) (v3 : Int) (v4 : Int) (v5 : Int) (s0 : Int) (s1 : Int) (σ : Sg) (Q : Int → Sg → Prop) : Prop := VV X mX12_made 162 [(0, .ref (cxA X 69)), (1, .int (gI v1)), (2, .int (gI v2)), (3, .int (gI v3)), (4, .int (gI v4)), (5, .int (gI v5))] [.int (gI s0), .int (gI s1)] σ Q
set_option maxHeartbeats 2000000 in
set_option maxRecDepth 20000 in
theorem rX12_made_0 {X : Cx} {v1 : Int} {v2 : Int} {v3 : Int} {σ : Sg} {Q : Int → Sg → Prop} (h : Rng σ → (inI v1) ∧ ((v1 = 4 → KX12_every X σ (fun r3 σ4 => Rng σ4 → Q (zand r3 (zxor v2 ((-1)))) σ4)) ∧ (v1 = 5 → Q (zand v2 v3) σ) ∧ (v1 = 6 → Q (zor v2 v3) σ) ∧ (v1 = 7 → Q (zand v2 (zxor v3 ((-1)))) σ) ∧ (v1 = 8 → GX12_made_86 X v1 v2 v3 0 0 σ Q) ∧ (v1 = 9 → GX12_made_131 X v1 v2 v3 0 0 σ Q) ∧ (v1 = 10 → KX12_bySize X v2 1 σ (fun r6 σ7 => Rng σ7 → Q r6 σ7)) ∧ (v1 = 11 → KX12_bySize X v2 0 σ (fun r9 σ10 => Rng σ10 → Q r9 σ10)) ∧ (v1 = 12 → KX12_leftmost X v2 σ (fun r12 σ13 => Rng σ13 → Q r12 σ13)) ∧ (v1 = 13 → KX12_leftmost X v2 σ (fun r15 σ16 => Rng σ16 → KX12_leftmost X (zand v2 (zxor r15 ((-1)))) σ16 (fun r18 σ19 => Rng σ19 → Q r18 σ19))) ∧ (¬ v1 = 4 ∧ ¬ v1 = 5 ∧ ¬ v1 = 6 ∧ ¬ v1 = 7 ∧ ¬ v1 = 8 ∧ ¬ v1 = 9 ∧ ¬ v1 = 10 ∧ ¬ v1 = 11 ∧ ¬ v1 = 12 ∧ ¬ v1 = 13 → KX12_bits X v2 σ (fun r21 σ22 => Rng σ22 → (inI r21) ∧ ((¬ r21 = 1 → Q 0 σ22) ∧ (r21 = 1 → Q v2 σ22)))))) : GX12_made_0 X v1 v2 v3 σ Q := by
  unfold GX12_made_0
  refine V_rng (fun hR0 => ?_)
  have h := h hR0
  refine V_iconst dX12_made_0 ?_
  refine V_istore (L' := [(4, .int (gI 0)), (0, .ref (cxA X 69)), (1, .int (gI v1)), (2, .int (gI v2)), (3, .int (gI v3))]) (by decide) rfl dX12_made_1 ?_
  refine V_iload_n 2 rfl rfl dX12_made_3 ?_
  obtain ⟨g1, h⟩ := h
  rcases (show v1 = 4 ∨ v1 = 5 ∨ v1 = 6 ∨ v1 = 7 ∨ v1 = 8 ∨ v1 = 9 ∨ v1 = 10 ∨ v1 = 11 ∨ v1 = 12 ∨ v1 = 13 ∨ (¬ v1 = 4 ∧ ¬ v1 = 5 ∧ ¬ v1 = 6 ∧ ¬ v1 = 7 ∧ ¬ v1 = 8 ∧ ¬ v1 = 9 ∧ ¬ v1 = 10 ∧ ¬ v1 = 11 ∧ ¬ v1 = 12 ∧ ¬ v1 = 13) by omega) with q2 | q2 | q2 | q2 | q2 | q2 | q2 | q2 | q2 | q2 | q2
  · have h := h.1 q2
    refine V_tsw (tgt := 60) (off := 56) dX12_made_4 g1 (by omega) (by omega) (by rw [q2]; rfl) (by decide) ?_
    refine V_aload_n 1 rfl rfl dX12_made_60 ?_
    refine V_cV (M' := mX12_every) (As := []) (fun r => [.int (gI r)]) ok_X12_every ok2_X12_every sh_69 rfl (by decide) rfl rfl (Nat.le_of_ble_eq_true rfl) dX12_made_61 lk_RX12_m204 (by decide) (fun _ => rfl) h (fun r3 σ4 h => ?_)
    refine V_rng (fun hR5 => ?_)
    have h := h hR5
    refine V_iload_n 3 rfl rfl dX12_made_64 ?_
    refine V_iconst dX12_made_65 ?_
    refine V_ixor dX12_made_66 ?_
    refine V_iand dX12_made_67 ?_
    exact V_iret rfl (fun _ q => by cases q) (vp_nar_int _) dX12_made_68 h
  · have h := h.2.1 q2
    refine V_tsw (tgt := 69) (off := 65) dX12_made_4 g1 (by omega) (by omega) (by rw [q2]; rfl) (by decide) ?_
    refine V_iload_n 3 rfl rfl dX12_made_69 ?_
    refine V_iload_n 4 rfl rfl dX12_made_70 ?_
    refine V_iand dX12_made_71 ?_
    exact V_iret rfl (fun _ q => by cases q) (vp_nar_int _) dX12_made_72 h
  · have h := h.2.2.1 q2
    refine V_tsw (tgt := 73) (off := 69) dX12_made_4 g1 (by omega) (by omega) (by rw [q2]; rfl) (by decide) ?_
    refine V_iload_n 3 rfl rfl dX12_made_73 ?_
    refine V_iload_n 4 rfl rfl dX12_made_74 ?_
    refine V_ior dX12_made_75 ?_
    exact V_iret rfl (fun _ q => by cases q) (vp_nar_int _) dX12_made_76 h
  · have h := h.2.2.2.1 q2
    refine V_tsw (tgt := 77) (off := 73) dX12_made_4 g1 (by omega) (by omega) (by rw [q2]; rfl) (by decide) ?_
    refine V_iload_n 3 rfl rfl dX12_made_77 ?_
    refine V_iload_n 4 rfl rfl dX12_made_78 ?_
    refine V_iconst dX12_made_79 ?_
    refine V_ixor dX12_made_80 ?_
    refine V_iand dX12_made_81 ?_
    exact V_iret rfl (fun _ q => by cases q) (vp_nar_int _) dX12_made_82 h
  · have h := h.2.2.2.2.1 q2
    refine V_tsw (tgt := 83) (off := 79) dX12_made_4 g1 (by omega) (by omega) (by rw [q2]; rfl) (by decide) ?_
    refine V_iconst dX12_made_83 ?_
    refine V_istore (L' := [(5, .int (gI 0)), (4, .int (gI 0)), (0, .ref (cxA X 69)), (1, .int (gI v1)), (2, .int (gI v2)), (3, .int (gI v3))]) (by decide) rfl dX12_made_84 ?_
    exact V_sub [2, 3, 4, 5, 1, 0] rfl h
  · have h := h.2.2.2.2.2.1 q2
    refine V_tsw (tgt := 128) (off := 124) dX12_made_4 g1 (by omega) (by omega) (by rw [q2]; rfl) (by decide) ?_
    refine V_iconst dX12_made_128 ?_
    refine V_istore (L' := [(5, .int (gI 0)), (4, .int (gI 0)), (0, .ref (cxA X 69)), (1, .int (gI v1)), (2, .int (gI v2)), (3, .int (gI v3))]) (by decide) rfl dX12_made_129 ?_
    exact V_sub [2, 3, 4, 5, 1, 0] rfl h
  · have h := h.2.2.2.2.2.2.1 q2
    refine V_tsw (tgt := 174) (off := 170) dX12_made_4 g1 (by omega) (by omega) (by rw [q2]; rfl) (by decide) ?_
    refine V_aload_n 1 rfl rfl dX12_made_174 ?_
    refine V_iload_n 3 rfl rfl dX12_made_175 ?_
    refine V_iconst dX12_made_176 ?_
    refine V_cV (M' := mX12_bySize) (As := [.int (gI v2), .int (gI 1)]) (fun r => [.int (gI r)]) ok_X12_bySize ok2_X12_bySize sh_69 rfl (by decide) rfl rfl (Nat.le_of_ble_eq_true rfl) dX12_made_177 lk_RX12_m207 (by decide) (fun _ => rfl) h (fun r6 σ7 h => ?_)
    refine V_rng (fun hR8 => ?_)
    have h := h hR8
    exact V_iret rfl (fun _ q => by cases q) (vp_nar_int _) dX12_made_180 h
  · have h := h.2.2.2.2.2.2.2.1 q2
    refine V_tsw (tgt := 181) (off := 177) dX12_made_4 g1 (by omega) (by omega) (by rw [q2]; rfl) (by decide) ?_
    refine V_aload_n 1 rfl rfl dX12_made_181 ?_
    refine V_iload_n 3 rfl rfl dX12_made_182 ?_
    refine V_iconst dX12_made_183 ?_
    refine V_cV (M' := mX12_bySize) (As := [.int (gI v2), .int (gI 0)]) (fun r => [.int (gI r)]) ok_X12_bySize ok2_X12_bySize sh_69 rfl (by decide) rfl rfl (Nat.le_of_ble_eq_true rfl) dX12_made_184 lk_RX12_m207 (by decide) (fun _ => rfl) h (fun r9 σ10 h => ?_)
    refine V_rng (fun hR11 => ?_)
    have h := h hR11
    exact V_iret rfl (fun _ q => by cases q) (vp_nar_int _) dX12_made_187 h
  · have h := h.2.2.2.2.2.2.2.2.1 q2
    refine V_tsw (tgt := 188) (off := 184) dX12_made_4 g1 (by omega) (by omega) (by rw [q2]; rfl) (by decide) ?_
    refine V_aload_n 1 rfl rfl dX12_made_188 ?_
    refine V_iload_n 3 rfl rfl dX12_made_189 ?_
    refine V_cV (M' := mX12_leftmost) (As := [.int (gI v2)]) (fun r => [.int (gI r)]) ok_X12_leftmost ok2_X12_leftmost sh_69 rfl (by decide) rfl rfl (Nat.le_of_ble_eq_true rfl) dX12_made_190 lk_RX12_m211 (by decide) (fun _ => rfl) h (fun r12 σ13 h => ?_)
    refine V_rng (fun hR14 => ?_)
    have h := h hR14
    exact V_iret rfl (fun _ q => by cases q) (vp_nar_int _) dX12_made_193 h
  · have h := h.2.2.2.2.2.2.2.2.2.1 q2
    refine V_tsw (tgt := 194) (off := 190) dX12_made_4 g1 (by omega) (by omega) (by rw [q2]; rfl) (by decide) ?_
    refine V_aload_n 1 rfl rfl dX12_made_194 ?_
    refine V_iload_n 3 rfl rfl dX12_made_195 ?_
    refine V_aload_n 1 rfl rfl dX12_made_196 ?_
    refine V_iload_n 3 rfl rfl dX12_made_197 ?_
    refine V_cV (M' := mX12_leftmost) (As := [.int (gI v2)]) (fun r => [.int (gI r), .int (gI v2), .ref (cxA X 69)]) ok_X12_leftmost ok2_X12_leftmost sh_69 rfl (by decide) rfl rfl (Nat.le_of_ble_eq_true rfl) dX12_made_198 lk_RX12_m211 (by decide) (fun _ => rfl) h (fun r15 σ16 h => ?_)
    refine V_rng (fun hR17 => ?_)
    have h := h hR17
    refine V_iconst dX12_made_201 ?_
    refine V_ixor dX12_made_202 ?_
    refine V_iand dX12_made_203 ?_
    refine V_cV (M' := mX12_leftmost) (As := [.int (gI (zand v2 (zxor r15 ((-1)))))]) (fun r => [.int (gI r)]) ok_X12_leftmost ok2_X12_leftmost sh_69 rfl (by decide) rfl rfl (Nat.le_of_ble_eq_true rfl) dX12_made_204 lk_RX12_m211 (by decide) (fun _ => rfl) h (fun r18 σ19 h => ?_)
    refine V_rng (fun hR20 => ?_)
    have h := h hR20
    exact V_iret rfl (fun _ q => by cases q) (vp_nar_int _) dX12_made_207 h
  · have h := h.2.2.2.2.2.2.2.2.2.2 q2
    refine V_tswD (tgt := 208) dX12_made_4 g1 (by omega) (by decide) ?_
    refine V_iload_n 3 rfl rfl dX12_made_208 ?_
    refine V_cS (M' := mX12_bits) (As := [.int (gI v2)]) (fun r => [.int (gI r)]) ok_X12_bits ok2_X12_bits rfl rfl (Nat.le_of_ble_eq_true rfl) dX12_made_209 lk_RX12_m110 (by decide) (fun _ => rfl) h (fun r21 σ22 h => ?_)
    refine V_rng (fun hR23 => ?_)
    have h := h hR23
    refine V_iconst dX12_made_212 ?_
    obtain ⟨g24, h⟩ := h
    refine V_icmp_ne (tgt := 220) dX12_made_213 (by decide) g24 (by decide) (fun q25 => ?_) (fun q25 => ?_)
    · have h := h.1 q25
      refine V_iconst dX12_made_220 ?_
      exact V_iret rfl (fun _ q => by cases q) (vp_nar_int _) dX12_made_221 h
    · have h := h.2 q25
      refine V_iload_n 3 rfl rfl dX12_made_216 ?_
      refine V_goto (tgt := 221) dX12_made_217 (by decide) ?_
      exact V_iret rfl (fun _ q => by cases q) (vp_nar_int _) dX12_made_221 h
set_option maxHeartbeats 2000000 in
set_option maxRecDepth 20000 in
theorem rX12_made_86 {X : Cx} {v1 : Int} {v2 : Int} {v3 : Int} {v4 : Int} {v5 : Int} {σ : Sg} {Q : Int → Sg → Prop} (h : Rng σ → (inI v5) ∧ (((σ 69 0) ≤ v5 → Q v4 σ) ∧ (v5 < (σ 69 0) → KX12_besides X v5 σ (fun r3 σ4 => Rng σ4 → (((zand r3 v2) = 0 → GX12_made_116 X v1 v2 v3 v4 v5 0 v4 σ4 Q) ∧ (¬ (zand r3 v2) = 0 → GX12_made_116 X v1 v2 v3 v4 v5 (zshl 1 v5) v4 σ4 Q)))))) : GX12_made_86 X v1 v2 v3 v4 v5 σ Q := by
  unfold GX12_made_86
  refine V_rng (fun hR0 => ?_)
  have h := h hR0
  refine V_iload 5 rfl dX12_made_86 ?_
  refine V_aload_n 0 rfl rfl dX12_made_88 ?_
  refine V_getI (f := 0) ci_X12 sh_69 rfl (by decide) dX12_made_89 lk_RX12_f98 ?_
  obtain ⟨g1, h⟩ := h
  refine V_icmp_ge (tgt := 125) dX12_made_92 (by decide) g1 (show inI (σ 69 0) from (hR0.1 69 0 (by decide))) (fun q2 => ?_) (fun q2 => ?_)
  · have h := h.1 q2
    refine V_iload 4 rfl dX12_made_125 ?_
    exact V_iret rfl (fun _ q => by cases q) (vp_nar_int _) dX12_made_127 h
  · have h := h.2 q2
    refine V_iload 4 rfl dX12_made_95 ?_
    refine V_aload_n 0 rfl rfl dX12_made_97 ?_
    refine V_iload 5 rfl dX12_made_98 ?_
    refine V_cV (M' := mX12_besides) (As := [.int (gI v5)]) (fun r => [.int (gI r), .int (gI v4)]) ok_X12_besides ok2_X12_besides sh_69 rfl (by decide) rfl rfl (Nat.le_of_ble_eq_true rfl) dX12_made_100 lk_RX12_m118 (by decide) (fun _ => rfl) h (fun r3 σ4 h => ?_)
    refine V_rng (fun hR5 => ?_)
    have h := h hR5
    refine V_iload_n 2 rfl rfl dX12_made_103 ?_
    refine V_iand dX12_made_104 ?_
    refine V_if_eq (tgt := 115) dX12_made_105 (by decide) (inI_z _) (fun q6 => ?_) (fun q6 => ?_)
    · have h := h.1 q6
      refine V_iconst dX12_made_115 ?_
      exact h
    · have h := h.2 q6
      refine V_iconst dX12_made_108 ?_
      refine V_iload 5 rfl dX12_made_109 ?_
      refine V_ishl dX12_made_111 ?_
      refine V_goto (tgt := 116) dX12_made_112 (by decide) ?_
      exact h
set_option maxHeartbeats 2000000 in
set_option maxRecDepth 20000 in
theorem rX12_made_116 {X : Cx} {v1 : Int} {v2 : Int} {v3 : Int} {v4 : Int} {v5 : Int} {s0 : Int} {s1 : Int} {σ : Sg} {Q : Int → Sg → Prop} (h : Rng σ → GX12_made_86 X v1 v2 v3 (zor s1 s0) (v5 + 1) σ Q) : GX12_made_116 X v1 v2 v3 v4 v5 s0 s1 σ Q := by
  unfold GX12_made_116
  refine V_rng (fun hR0 => ?_)
  have h := h hR0
  refine V_ior dX12_made_116 ?_
  refine V_istore (L' := [(4, .int (gI (zor s1 s0))), (0, .ref (cxA X 69)), (1, .int (gI v1)), (2, .int (gI v2)), (3, .int (gI v3)), (5, .int (gI v5))]) (by decide) rfl dX12_made_117 ?_
  refine V_iinc (L' := [(5, .int (gI (v5 + 1))), (4, .int (gI (zor s1 s0))), (0, .ref (cxA X 69)), (1, .int (gI v1)), (2, .int (gI v2)), (3, .int (gI v3))]) 5 rfl (by decide) rfl dX12_made_119 ?_
  refine V_goto (tgt := 86) dX12_made_122 (by decide) ?_
  exact V_sub [2, 3, 4, 5, 1, 0] rfl h
set_option maxHeartbeats 2000000 in
set_option maxRecDepth 20000 in
theorem rX12_made_131 {X : Cx} {v1 : Int} {v2 : Int} {v3 : Int} {v4 : Int} {v5 : Int} {σ : Sg} {Q : Int → Sg → Prop} (h : Rng σ → (inI v5) ∧ (((σ 69 0) ≤ v5 → Q v4 σ) ∧ (v5 < (σ 69 0) → (0 ≤ v5 ∧ v5 < 8) ∧ (((zand (σ 75 v5.toNat) v2) = 0 → GX12_made_162 X v1 v2 v3 v4 v5 0 v4 σ Q) ∧ (¬ (zand (σ 75 v5.toNat) v2) = 0 → GX12_made_162 X v1 v2 v3 v4 v5 (zshl 1 v5) v4 σ Q))))) : GX12_made_131 X v1 v2 v3 v4 v5 σ Q := by
  unfold GX12_made_131
  refine V_rng (fun hR0 => ?_)
  have h := h hR0
  refine V_iload 5 rfl dX12_made_131 ?_
  refine V_aload_n 0 rfl rfl dX12_made_133 ?_
  refine V_getI (f := 0) ci_X12 sh_69 rfl (by decide) dX12_made_134 lk_RX12_f98 ?_
  obtain ⟨g1, h⟩ := h
  refine V_icmp_ge (tgt := 171) dX12_made_137 (by decide) g1 (show inI (σ 69 0) from (hR0.1 69 0 (by decide))) (fun q2 => ?_) (fun q2 => ?_)
  · have h := h.1 q2
    refine V_iload 4 rfl dX12_made_171 ?_
    exact V_iret rfl (fun _ q => by cases q) (vp_nar_int _) dX12_made_173 h
  · have h := h.2 q2
    refine V_iload 4 rfl dX12_made_140 ?_
    refine V_aload_n 0 rfl rfl dX12_made_142 ?_
    refine V_getR (f := 6) ci_X12 sh_69 rfl (by decide) (c1 := 75) rfl dX12_made_143 lk_RX12_f25 ?_
    refine V_iload 5 rfl dX12_made_146 ?_
    obtain ⟨g3, h⟩ := h
    refine V_iald sh_75 (by decide) g3 dX12_made_148 ?_
    refine V_iload_n 2 rfl rfl dX12_made_149 ?_
    refine V_iand dX12_made_150 ?_
    refine V_if_eq (tgt := 161) dX12_made_151 (by decide) (inI_z _) (fun q4 => ?_) (fun q4 => ?_)
    · have h := h.1 q4
      refine V_iconst dX12_made_161 ?_
      exact h
    · have h := h.2 q4
      refine V_iconst dX12_made_154 ?_
      refine V_iload 5 rfl dX12_made_155 ?_
      refine V_ishl dX12_made_157 ?_
      refine V_goto (tgt := 162) dX12_made_158 (by decide) ?_
      exact h
set_option maxHeartbeats 2000000 in
set_option maxRecDepth 20000 in
theorem rX12_made_162 {X : Cx} {v1 : Int} {v2 : Int} {v3 : Int} {v4 : Int} {v5 : Int} {s0 : Int} {s1 : Int} {σ : Sg} {Q : Int → Sg → Prop} (h : Rng σ → GX12_made_131 X v1 v2 v3 (zor s1 s0) (v5 + 1) σ Q) : GX12_made_162 X v1 v2 v3 v4 v5 s0 s1 σ Q := by
  unfold GX12_made_162
  refine V_rng (fun hR0 => ?_)
  have h := h hR0
  refine V_ior dX12_made_162 ?_
  refine V_istore (L' := [(4, .int (gI (zor s1 s0))), (0, .ref (cxA X 69)), (1, .int (gI v1)), (2, .int (gI v2)), (3, .int (gI v3)), (5, .int (gI v5))]) (by decide) rfl dX12_made_163 ?_
  refine V_iinc (L' := [(5, .int (gI (v5 + 1))), (4, .int (gI (zor s1 s0))), (0, .ref (cxA X 69)), (1, .int (gI v1)), (2, .int (gI v2)), (3, .int (gI v3))]) 5 rfl (by decide) rfl dX12_made_165 ?_
  refine V_goto (tgt := 131) dX12_made_168 (by decide) ?_
  exact V_sub [2, 3, 4, 5, 1, 0] rfl h
theorem eX12_made {X : Cx} {v1 : Int} {v2 : Int} {v3 : Int} {σ : Sg} {Q : Int → Sg → Prop} (h : GX12_made_0 X v1 v2 v3 σ Q) : KX12_made X v1 v2 v3 σ Q := V_enter (by decide) (Nat.le_of_ble_eq_true rfl) rfl h
def GX12_meaning_0 (X : Cx) (σ : Sg) (Q : Int → Sg → Prop) : Prop := VV X mX12_meaning 0 [(0, .ref (cxA X 69))] [] σ Q
def GX12_meaning_9 (X : Cx) (v1 : Int) (v2 : Int) (σ : Sg) (Q : Int → Sg → Prop) : Prop := VV X mX12_meaning 9 [(0, .ref (cxA X 69)), (1, .int (gI v1)), (2, .int (gI v2))] [] σ Q
def GX12_meaning_39 (X : Cx) (v1 : Int) (v2 : Int) (v3 : Int) (s0 : Int) (σ : Sg) (Q : Int → Sg → Prop) : Prop := VV X mX12_meaning 39 [(0, .ref (cxA X 69)), (1, .int (gI v1)), (2, .int (gI v2)), (3, .int (gI v3))] [.int (gI s0)] σ Q
def GX12_meaning_58 (X : Cx) (v1 : Int) (v2 : Int) (v3 : Int) (v4 : Int) (s0 : Int) (σ : Sg) (Q : Int → Sg → Prop) : Prop := VV X mX12_meaning 58 [(0, .ref (cxA X 69)), (1, .int (gI v1)), (2, .int (gI v2)), (3, .int (gI v3)), (4, .int (gI v4))] [.int (gI s0)] σ Q
def GX12_meaning_106 (X : Cx) (v1 : Int) (v2 : Int) (v3 : Int) (v4 : Int) (v5 : Int) (s0 : Int) (s1 : Int) (σ : Sg) (Q : Int → Sg → Prop) : Prop := VV X mX12_meaning 106 [(0, .ref (cxA X 69)), (1, .int (gI v1)), (2, .int (gI v2)), (3, .int (gI v3)), (4, .int (gI v4)), (5, .int (gI v5))] [.int (gI s0), .int (gI s1), .ref (cxA X 80)] σ Q
set_option maxHeartbeats 2000000 in
set_option maxRecDepth 20000 in
theorem rX12_meaning_0 {X : Cx} {σ : Sg} {Q : Int → Sg → Prop} (h : Rng σ → GX12_meaning_9 X 0 ((σ 69 16) - 1) σ Q) : GX12_meaning_0 X σ Q := by
  unfold GX12_meaning_0
  refine V_rng (fun hR0 => ?_)
  have h := h hR0
  refine V_iconst dX12_meaning_0 ?_
  refine V_istore_n (L' := [(1, .int (gI 0)), (0, .ref (cxA X 69))]) rfl (by decide) rfl dX12_meaning_1 ?_
  refine V_aload_n 1 rfl rfl dX12_meaning_2 ?_
  refine V_getI (f := 16) ci_X12 sh_69 rfl (by decide) dX12_meaning_3 lk_RX12_f185 ?_
  refine V_iconst dX12_meaning_6 ?_
  refine V_isub dX12_meaning_7 ?_
  refine V_istore_n (L' := [(2, .int (gI ((σ 69 16) - 1))), (1, .int (gI 0)), (0, .ref (cxA X 69))]) rfl (by decide) rfl dX12_meaning_8 ?_
  exact V_sub [2, 1, 0] rfl h
set_option maxHeartbeats 2000000 in
set_option maxRecDepth 20000 in
theorem rX12_meaning_9 {X : Cx} {v1 : Int} {v2 : Int} {σ : Sg} {Q : Int → Sg → Prop} (h : Rng σ → (inI v2) ∧ ((v2 < 0 → Q (σ 80 0) σ) ∧ (0 ≤ v2 → (0 ≤ v2 ∧ v2 < 24) ∧ KX12_needs X (σ 78 v2.toNat) σ (fun r4 σ5 => Rng σ5 → (inI r4) ∧ ((r4 ≤ 0 → GX12_meaning_39 X v1 v2 r4 0 σ5 Q) ∧ (0 < r4 → (0 ≤ v1 - 1 ∧ v1 - 1 < 26) ∧ GX12_meaning_39 X v1 v2 r4 (σ5 80 ((v1 - 1).toNat)) σ5 Q)))))) : GX12_meaning_9 X v1 v2 σ Q := by
  unfold GX12_meaning_9
  refine V_rng (fun hR0 => ?_)
  have h := h hR0
  refine V_iload_n 2 rfl rfl dX12_meaning_9 ?_
  obtain ⟨g1, h⟩ := h
  refine V_if_lt (tgt := 116) dX12_meaning_10 (by decide) g1 (fun q2 => ?_) (fun q2 => ?_)
  · have h := h.1 q2
    refine V_aload_n 0 rfl rfl dX12_meaning_116 ?_
    refine V_getR (f := 19) ci_X12 sh_69 rfl (by decide) (c1 := 80) rfl dX12_meaning_117 lk_RX12_f40 ?_
    refine V_iconst dX12_meaning_120 ?_
    refine V_iald sh_80 (by decide) (by decide) dX12_meaning_121 ?_
    exact V_iret rfl (fun _ q => by cases q) (vp_nar_int _) dX12_meaning_122 h
  · have h := h.2 q2
    refine V_aload_n 0 rfl rfl dX12_meaning_13 ?_
    refine V_getR (f := 17) ci_X12 sh_69 rfl (by decide) (c1 := 78) rfl dX12_meaning_14 lk_RX12_f34 ?_
    refine V_iload_n 2 rfl rfl dX12_meaning_17 ?_
    obtain ⟨g3, h⟩ := h
    refine V_iald sh_78 (by decide) g3 dX12_meaning_18 ?_
    refine V_cS (M' := mX12_needs) (As := [.int (gI (σ 78 v2.toNat))]) (fun r => [.int (gI r)]) ok_X12_needs ok2_X12_needs rfl rfl (Nat.le_of_ble_eq_true rfl) dX12_meaning_19 lk_RX12_m198 (by decide) (fun _ => rfl) h (fun r4 σ5 h => ?_)
    refine V_rng (fun hR6 => ?_)
    have h := h hR6
    refine V_istore_n (L' := [(3, .int (gI r4)), (0, .ref (cxA X 69)), (1, .int (gI v1)), (2, .int (gI v2))]) rfl (by decide) rfl dX12_meaning_22 ?_
    refine V_iload_n 0 rfl rfl dX12_meaning_23 ?_
    obtain ⟨g7, h⟩ := h
    refine V_if_le (tgt := 38) dX12_meaning_24 (by decide) g7 (fun q8 => ?_) (fun q8 => ?_)
    · have h := h.1 q8
      refine V_iconst dX12_meaning_38 ?_
      exact V_sub [1, 2, 3, 0] rfl h
    · have h := h.2 q8
      refine V_aload_n 1 rfl rfl dX12_meaning_27 ?_
      refine V_getR (f := 19) ci_X12 sh_69 rfl (by decide) (c1 := 80) rfl dX12_meaning_28 lk_RX12_f40 ?_
      refine V_iload_n 2 rfl rfl dX12_meaning_31 ?_
      refine V_iconst dX12_meaning_32 ?_
      refine V_isub dX12_meaning_33 ?_
      obtain ⟨g9, h⟩ := h
      refine V_iald sh_80 (by decide) g9 dX12_meaning_34 ?_
      refine V_goto (tgt := 39) dX12_meaning_35 (by decide) ?_
      exact V_sub [1, 2, 3, 0] rfl h
set_option maxHeartbeats 2000000 in
set_option maxRecDepth 20000 in
theorem rX12_meaning_39 {X : Cx} {v1 : Int} {v2 : Int} {v3 : Int} {s0 : Int} {σ : Sg} {Q : Int → Sg → Prop} (h : Rng σ → (inI v3) ∧ ((v3 ≤ 1 → GX12_meaning_58 X v1 v2 v3 s0 0 σ Q) ∧ (1 < v3 → (0 ≤ v1 - 2 ∧ v1 - 2 < 26) ∧ GX12_meaning_58 X v1 v2 v3 s0 (σ 80 ((v1 - 2).toNat)) σ Q))) : GX12_meaning_39 X v1 v2 v3 s0 σ Q := by
  unfold GX12_meaning_39
  refine V_rng (fun hR0 => ?_)
  have h := h hR0
  refine V_istore (L' := [(4, .int (gI s0)), (0, .ref (cxA X 69)), (1, .int (gI v1)), (2, .int (gI v2)), (3, .int (gI v3))]) (by decide) rfl dX12_meaning_39 ?_
  refine V_iload_n 4 rfl rfl dX12_meaning_41 ?_
  refine V_iconst dX12_meaning_42 ?_
  obtain ⟨g1, h⟩ := h
  refine V_icmp_le (tgt := 57) dX12_meaning_43 (by decide) g1 (by decide) (fun q2 => ?_) (fun q2 => ?_)
  · have h := h.1 q2
    refine V_iconst dX12_meaning_57 ?_
    exact V_sub [1, 2, 3, 4, 0] rfl h
  · have h := h.2 q2
    refine V_aload_n 1 rfl rfl dX12_meaning_46 ?_
    refine V_getR (f := 19) ci_X12 sh_69 rfl (by decide) (c1 := 80) rfl dX12_meaning_47 lk_RX12_f40 ?_
    refine V_iload_n 2 rfl rfl dX12_meaning_50 ?_
    refine V_iconst dX12_meaning_51 ?_
    refine V_isub dX12_meaning_52 ?_
    obtain ⟨g3, h⟩ := h
    refine V_iald sh_80 (by decide) g3 dX12_meaning_53 ?_
    refine V_goto (tgt := 58) dX12_meaning_54 (by decide) ?_
    exact V_sub [1, 2, 3, 4, 0] rfl h
set_option maxHeartbeats 2000000 in
set_option maxRecDepth 20000 in
theorem rX12_meaning_58 {X : Cx} {v1 : Int} {v2 : Int} {v3 : Int} {v4 : Int} {s0 : Int} {σ : Sg} {Q : Int → Sg → Prop} (h : Rng σ → (inI v3) ∧ ((¬ v3 = 0 → (0 ≤ v2 ∧ v2 < 24) ∧ KX12_made X (σ 78 v2.toNat) v4 s0 σ (fun r4 σ5 => Rng σ5 → GX12_meaning_106 X (v1 - v3) v2 v3 v4 s0 r4 (v1 - v3) σ5 Q)) ∧ (v3 = 0 → (0 ≤ v2 ∧ v2 < 24) ∧ (0 ≤ v2 ∧ v2 < 24) ∧ KX12_allOf X (σ 78 v2.toNat) (σ 79 v2.toNat) σ (fun r9 σ10 => Rng σ10 → GX12_meaning_106 X (v1 - v3) v2 v3 v4 s0 r9 (v1 - v3) σ10 Q)))) : GX12_meaning_58 X v1 v2 v3 v4 s0 σ Q := by
  unfold GX12_meaning_58
  refine V_rng (fun hR0 => ?_)
  have h := h hR0
  refine V_istore (L' := [(5, .int (gI s0)), (0, .ref (cxA X 69)), (1, .int (gI v1)), (2, .int (gI v2)), (3, .int (gI v3)), (4, .int (gI v4))]) (by decide) rfl dX12_meaning_58 ?_
  refine V_iload_n 2 rfl rfl dX12_meaning_60 ?_
  refine V_iload_n 4 rfl rfl dX12_meaning_61 ?_
  refine V_isub dX12_meaning_62 ?_
  refine V_istore_n (L' := [(1, .int (gI (v1 - v3))), (5, .int (gI s0)), (0, .ref (cxA X 69)), (2, .int (gI v2)), (3, .int (gI v3)), (4, .int (gI v4))]) rfl (by decide) rfl dX12_meaning_63 ?_
  refine V_aload_n 2 rfl rfl dX12_meaning_64 ?_
  refine V_getR (f := 19) ci_X12 sh_69 rfl (by decide) (c1 := 80) rfl dX12_meaning_65 lk_RX12_f40 ?_
  refine V_iload_n 0 rfl rfl dX12_meaning_68 ?_
  refine V_iload_n 4 rfl rfl dX12_meaning_69 ?_
  obtain ⟨g1, h⟩ := h
  refine V_if_ne (tgt := 92) dX12_meaning_70 (by decide) g1 (fun q2 => ?_) (fun q2 => ?_)
  · have h := h.1 q2
    refine V_aload_n 2 rfl rfl dX12_meaning_92 ?_
    refine V_aload_n 2 rfl rfl dX12_meaning_93 ?_
    refine V_getR (f := 17) ci_X12 sh_69 rfl (by decide) (c1 := 78) rfl dX12_meaning_94 lk_RX12_f34 ?_
    refine V_iload_n 3 rfl rfl dX12_meaning_97 ?_
    obtain ⟨g3, h⟩ := h
    refine V_iald sh_78 (by decide) g3 dX12_meaning_98 ?_
    refine V_iload 5 rfl dX12_meaning_99 ?_
    refine V_iload 1 rfl dX12_meaning_101 ?_
    refine V_cV (M' := mX12_made) (As := [.int (gI (σ 78 v2.toNat)), .int (gI v4), .int (gI s0)]) (fun r => [.int (gI r), .int (gI (v1 - v3)), .ref (cxA X 80)]) ok_X12_made ok2_X12_made sh_69 rfl (by decide) rfl rfl (Nat.le_of_ble_eq_true rfl) dX12_meaning_103 lk_RX12_m218 (by decide) (fun _ => rfl) h (fun r4 σ5 h => ?_)
    refine V_rng (fun hR6 => ?_)
    have h := h hR6
    exact V_sub [2, 0, 3, 4, 5, 1] rfl h
  · have h := h.2 q2
    refine V_aload_n 2 rfl rfl dX12_meaning_73 ?_
    refine V_aload_n 2 rfl rfl dX12_meaning_74 ?_
    refine V_getR (f := 17) ci_X12 sh_69 rfl (by decide) (c1 := 78) rfl dX12_meaning_75 lk_RX12_f34 ?_
    refine V_iload_n 3 rfl rfl dX12_meaning_78 ?_
    obtain ⟨g7, h⟩ := h
    refine V_iald sh_78 (by decide) g7 dX12_meaning_79 ?_
    refine V_aload_n 2 rfl rfl dX12_meaning_80 ?_
    refine V_getR (f := 18) ci_X12 sh_69 rfl (by decide) (c1 := 79) rfl dX12_meaning_81 lk_RX12_f37 ?_
    refine V_iload_n 3 rfl rfl dX12_meaning_84 ?_
    obtain ⟨g8, h⟩ := h
    refine V_iald sh_79 (by decide) g8 dX12_meaning_85 ?_
    refine V_cV (M' := mX12_allOf) (As := [.int (gI (σ 78 v2.toNat)), .int (gI (σ 79 v2.toNat))]) (fun r => [.int (gI r), .int (gI (v1 - v3)), .ref (cxA X 80)]) ok_X12_allOf ok2_X12_allOf sh_69 rfl (by decide) rfl rfl (Nat.le_of_ble_eq_true rfl) dX12_meaning_86 lk_RX12_m214 (by decide) (fun _ => rfl) h (fun r9 σ10 h => ?_)
    refine V_rng (fun hR11 => ?_)
    have h := h hR11
    refine V_goto (tgt := 106) dX12_meaning_89 (by decide) ?_
    exact V_sub [2, 0, 3, 4, 5, 1] rfl h
set_option maxHeartbeats 2000000 in
set_option maxRecDepth 20000 in
theorem rX12_meaning_106 {X : Cx} {v1 : Int} {v2 : Int} {v3 : Int} {v4 : Int} {v5 : Int} {s0 : Int} {s1 : Int} {σ : Sg} {Q : Int → Sg → Prop} (h : Rng σ → (0 ≤ s1 ∧ s1 < 26) ∧ (inI s0) ∧ GX12_meaning_9 X (v1 + 1) (v2 + (-1)) (up2 σ 80 s1.toNat s0) Q) : GX12_meaning_106 X v1 v2 v3 v4 v5 s0 s1 σ Q := by
  unfold GX12_meaning_106
  refine V_rng (fun hR0 => ?_)
  have h := h hR0
  obtain ⟨g1, h⟩ := h
  obtain ⟨g2, h⟩ := h
  refine V_iast sh_80 (by decide) g1 g2 dX12_meaning_106 ?_
  refine V_iinc (L' := [(1, .int (gI (v1 + 1))), (0, .ref (cxA X 69)), (2, .int (gI v2)), (3, .int (gI v3)), (4, .int (gI v4)), (5, .int (gI v5))]) 1 rfl (by decide) rfl dX12_meaning_107 ?_
  refine V_iinc (L' := [(2, .int (gI (v2 + (-1)))), (1, .int (gI (v1 + 1))), (0, .ref (cxA X 69)), (3, .int (gI v3)), (4, .int (gI v4)), (5, .int (gI v5))]) 2 rfl (by decide) rfl dX12_meaning_110 ?_
  refine V_goto (tgt := 9) dX12_meaning_113 (by decide) ?_
  exact V_sub [2, 1, 0] rfl h
theorem eX12_meaning {X : Cx} {σ : Sg} {Q : Int → Sg → Prop} (h : GX12_meaning_0 X σ Q) : KX12_meaning X σ Q := V_enter (by decide) (Nat.le_of_ble_eq_true rfl) rfl h
def GX12_costTold_0 (X : Cx) (σ : Sg) (Q : Int → Sg → Prop) : Prop := VV X mX12_costTold 0 [(0, .ref (cxA X 69))] [] σ Q
def GX12_costTold_4 (X : Cx) (v1 : Int) (v2 : Int) (σ : Sg) (Q : Int → Sg → Prop) : Prop := VV X mX12_costTold 4 [(0, .ref (cxA X 69)), (1, .int (gI v1)), (2, .int (gI v2))] [] σ Q
set_option maxHeartbeats 2000000 in
set_option maxRecDepth 20000 in
theorem rX12_costTold_0 {X : Cx} {σ : Sg} {Q : Int → Sg → Prop} (h : Rng σ → GX12_costTold_4 X 0 0 σ Q) : GX12_costTold_0 X σ Q := by
  unfold GX12_costTold_0
  refine V_rng (fun hR0 => ?_)
  have h := h hR0
  refine V_iconst dX12_costTold_0 ?_
  refine V_istore_n (L' := [(1, .int (gI 0)), (0, .ref (cxA X 69))]) rfl (by decide) rfl dX12_costTold_1 ?_
  refine V_iconst dX12_costTold_2 ?_
  refine V_istore_n (L' := [(2, .int (gI 0)), (1, .int (gI 0)), (0, .ref (cxA X 69))]) rfl (by decide) rfl dX12_costTold_3 ?_
  exact V_sub [2, 1, 0] rfl h
set_option maxHeartbeats 2000000 in
set_option maxRecDepth 20000 in
theorem rX12_costTold_4 {X : Cx} {v1 : Int} {v2 : Int} {σ : Sg} {Q : Int → Sg → Prop} (h : Rng σ → (inI v2) ∧ (((σ 69 16) ≤ v2 → Q v1 σ) ∧ (v2 < (σ 69 16) → (0 ≤ v2 ∧ v2 < 24) ∧ (0 ≤ σ 78 v2.toNat ∧ σ 78 v2.toNat < 15) ∧ GX12_costTold_4 X (v1 + (σ 76 ((σ 78 v2.toNat).toNat))) (v2 + 1) σ Q))) : GX12_costTold_4 X v1 v2 σ Q := by
  unfold GX12_costTold_4
  refine V_rng (fun hR0 => ?_)
  have h := h hR0
  refine V_iload_n 2 rfl rfl dX12_costTold_4 ?_
  refine V_aload_n 0 rfl rfl dX12_costTold_5 ?_
  refine V_getI (f := 16) ci_X12 sh_69 rfl (by decide) dX12_costTold_6 lk_RX12_f185 ?_
  obtain ⟨g1, h⟩ := h
  refine V_icmp_ge (tgt := 32) dX12_costTold_9 (by decide) g1 (show inI (σ 69 16) from (hR0.1 69 16 (by decide))) (fun q2 => ?_) (fun q2 => ?_)
  · have h := h.1 q2
    refine V_iload_n 1 rfl rfl dX12_costTold_32 ?_
    exact V_iret rfl (fun _ q => by cases q) (vp_nar_int _) dX12_costTold_33 h
  · have h := h.2 q2
    refine V_iload_n 1 rfl rfl dX12_costTold_12 ?_
    refine V_aload_n 0 rfl rfl dX12_costTold_13 ?_
    refine V_getR (f := 7) ci_X12 sh_69 rfl (by decide) (c1 := 76) rfl dX12_costTold_14 lk_RX12_f28 ?_
    refine V_aload_n 0 rfl rfl dX12_costTold_17 ?_
    refine V_getR (f := 17) ci_X12 sh_69 rfl (by decide) (c1 := 78) rfl dX12_costTold_18 lk_RX12_f34 ?_
    refine V_iload_n 2 rfl rfl dX12_costTold_21 ?_
    obtain ⟨g3, h⟩ := h
    refine V_iald sh_78 (by decide) g3 dX12_costTold_22 ?_
    obtain ⟨g4, h⟩ := h
    refine V_iald sh_76 (by decide) g4 dX12_costTold_23 ?_
    refine V_iadd dX12_costTold_24 ?_
    refine V_istore_n (L' := [(1, .int (gI (v1 + (σ 76 ((σ 78 v2.toNat).toNat))))), (0, .ref (cxA X 69)), (2, .int (gI v2))]) rfl (by decide) rfl dX12_costTold_25 ?_
    refine V_iinc (L' := [(2, .int (gI (v2 + 1))), (1, .int (gI (v1 + (σ 76 ((σ 78 v2.toNat).toNat))))), (0, .ref (cxA X 69))]) 2 rfl (by decide) rfl dX12_costTold_26 ?_
    refine V_goto (tgt := 4) dX12_costTold_29 (by decide) ?_
    exact V_sub [2, 1, 0] rfl h
theorem eX12_costTold {X : Cx} {σ : Sg} {Q : Int → Sg → Prop} (h : GX12_costTold_0 X σ Q) : KX12_costTold X σ Q := V_enter (by decide) (Nat.le_of_ble_eq_true rfl) rfl h
def GX12_says_0 (X : Cx) (v1 : Int) (σ : Sg) (Q : Int → Sg → Prop) : Prop := VV X mX12_says 0 [(0, .ref (cxA X 69)), (1, .int (gI v1))] [] σ Q
set_option maxHeartbeats 2000000 in
set_option maxRecDepth 20000 in
theorem rX12_says_0 {X : Cx} {v1 : Int} {σ : Sg} {Q : Int → Sg → Prop} (h : Rng σ → KX12_in X v1 0 2 σ (fun r1 σ2 => Rng σ2 → (inI r1) ∧ ((¬ r1 = 0 → KX12_isRead X σ2 (fun r6 σ7 => Rng σ7 → (inI r6) ∧ ((¬ r6 = 0 → (inI v1) ∧ ((¬ v1 = 0 → (inI v1) ∧ ((¬ v1 = 1 → Q (σ7 69 16) σ7) ∧ (v1 = 1 → KX12_costTold X σ7 (fun r15 σ16 => Rng σ16 → Q r15 σ16)))) ∧ (v1 = 0 → KX12_meaning X σ7 (fun r18 σ19 => Rng σ19 → Q r18 σ19)))) ∧ (r6 = 0 → Q ((-4)) σ7)))) ∧ (r1 = 0 → Q ((-3)) σ2)))) : GX12_says_0 X v1 σ Q := by
  unfold GX12_says_0
  refine V_rng (fun hR0 => ?_)
  have h := h hR0
  refine V_iload_n 1 rfl rfl dX12_says_0 ?_
  refine V_iconst dX12_says_1 ?_
  refine V_iconst dX12_says_2 ?_
  refine V_cS (M' := mX12_in) (As := [.int (gI v1), .int (gI 0), .int (gI 2)]) (fun r => [.int (gI r)]) ok_X12_in ok2_X12_in rfl rfl (Nat.le_of_ble_eq_true rfl) dX12_says_3 lk_RX12_m102 (by decide) (fun _ => rfl) h (fun r1 σ2 h => ?_)
  refine V_rng (fun hR3 => ?_)
  have h := h hR3
  obtain ⟨g4, h⟩ := h
  refine V_if_ne (tgt := 12) dX12_says_6 (by decide) g4 (fun q5 => ?_) (fun q5 => ?_)
  · have h := h.1 q5
    refine V_aload_n 0 rfl rfl dX12_says_12 ?_
    refine V_cV (M' := mX12_isRead) (As := []) (fun r => [.int (gI r)]) ok_X12_isRead ok2_X12_isRead sh_69 rfl (by decide) rfl rfl (Nat.le_of_ble_eq_true rfl) dX12_says_13 lk_RX12_m201 (by decide) (fun _ => rfl) h (fun r6 σ7 h => ?_)
    refine V_rng (fun hR8 => ?_)
    have h := h hR8
    obtain ⟨g9, h⟩ := h
    refine V_if_ne (tgt := 22) dX12_says_16 (by decide) g9 (fun q10 => ?_) (fun q10 => ?_)
    · have h := h.1 q10
      refine V_iload_n 1 rfl rfl dX12_says_22 ?_
      obtain ⟨g11, h⟩ := h
      refine V_if_ne (tgt := 33) dX12_says_23 (by decide) g11 (fun q12 => ?_) (fun q12 => ?_)
      · have h := h.1 q12
        refine V_iload_n 1 rfl rfl dX12_says_33 ?_
        refine V_iconst dX12_says_34 ?_
        obtain ⟨g13, h⟩ := h
        refine V_icmp_ne (tgt := 45) dX12_says_35 (by decide) g13 (by decide) (fun q14 => ?_) (fun q14 => ?_)
        · have h := h.1 q14
          refine V_aload_n 0 rfl rfl dX12_says_45 ?_
          refine V_getI (f := 16) ci_X12 sh_69 rfl (by decide) dX12_says_46 lk_RX12_f185 ?_
          exact V_iret rfl (fun _ q => by cases q) (vp_nar_int _) dX12_says_49 h
        · have h := h.2 q14
          refine V_aload_n 0 rfl rfl dX12_says_38 ?_
          refine V_cV (M' := mX12_costTold) (As := []) (fun r => [.int (gI r)]) ok_X12_costTold ok2_X12_costTold sh_69 rfl (by decide) rfl rfl (Nat.le_of_ble_eq_true rfl) dX12_says_39 lk_RX12_m225 (by decide) (fun _ => rfl) h (fun r15 σ16 h => ?_)
          refine V_rng (fun hR17 => ?_)
          have h := h hR17
          refine V_goto (tgt := 49) dX12_says_42 (by decide) ?_
          exact V_iret rfl (fun _ q => by cases q) (vp_nar_int _) dX12_says_49 h
      · have h := h.2 q12
        refine V_aload_n 0 rfl rfl dX12_says_26 ?_
        refine V_cV (M' := mX12_meaning) (As := []) (fun r => [.int (gI r)]) ok_X12_meaning ok2_X12_meaning sh_69 rfl (by decide) rfl rfl (Nat.le_of_ble_eq_true rfl) dX12_says_27 lk_RX12_m222 (by decide) (fun _ => rfl) h (fun r18 σ19 h => ?_)
        refine V_rng (fun hR20 => ?_)
        have h := h hR20
        refine V_goto (tgt := 49) dX12_says_30 (by decide) ?_
        exact V_iret rfl (fun _ q => by cases q) (vp_nar_int _) dX12_says_49 h
    · have h := h.2 q10
      refine V_bipush (v := -4) (by decide) dX12_says_19 ?_
      exact V_iret rfl (fun _ q => by cases q) (vp_nar_int _) dX12_says_21 h
  · have h := h.2 q5
    refine V_bipush (v := -3) (by decide) dX12_says_9 ?_
    exact V_iret rfl (fun _ q => by cases q) (vp_nar_int _) dX12_says_11 h
theorem eX12_says {X : Cx} {v1 : Int} {σ : Sg} {Q : Int → Sg → Prop} (h : GX12_says_0 X v1 σ Q) : KX12_says X v1 σ Q := V_enter (by decide) (Nat.le_of_ble_eq_true rfl) rfl h
def GX12_keep_0 (X : Cx) (σ : Sg) (Q : Int → Sg → Prop) : Prop := VV X mX12_keep 0 [(0, .ref (cxA X 69))] [] σ Q
def GX12_keep_37 (X : Cx) (v1 : Int) (σ : Sg) (Q : Int → Sg → Prop) : Prop := VV X mX12_keep 37 [(0, .ref (cxA X 69)), (1, .int (gI v1))] [] σ Q
set_option maxHeartbeats 2000000 in
set_option maxRecDepth 20000 in
theorem rX12_keep_0 {X : Cx} {σ : Sg} {Q : Int → Sg → Prop} (h : Rng σ → KX12_isRead X σ (fun r1 σ2 => Rng σ2 → (inI r1) ∧ ((¬ r1 = 0 → ((¬ (σ2 69 20) = 8 → (0 ≤ σ2 69 20 ∧ σ2 69 20 < 8) ∧ GX12_keep_37 X 0 (up2 σ2 81 ((σ2 69 20).toNat) (σ2 69 16)) Q) ∧ ((σ2 69 20) = 8 → Q ((-5)) σ2))) ∧ (r1 = 0 → Q ((-4)) σ2)))) : GX12_keep_0 X σ Q := by
  unfold GX12_keep_0
  refine V_rng (fun hR0 => ?_)
  have h := h hR0
  refine V_aload_n 0 rfl rfl dX12_keep_0 ?_
  refine V_cV (M' := mX12_isRead) (As := []) (fun r => [.int (gI r)]) ok_X12_isRead ok2_X12_isRead sh_69 rfl (by decide) rfl rfl (Nat.le_of_ble_eq_true rfl) dX12_keep_1 lk_RX12_m201 (by decide) (fun _ => rfl) h (fun r1 σ2 h => ?_)
  refine V_rng (fun hR3 => ?_)
  have h := h hR3
  obtain ⟨g4, h⟩ := h
  refine V_if_ne (tgt := 10) dX12_keep_4 (by decide) g4 (fun q5 => ?_) (fun q5 => ?_)
  · have h := h.1 q5
    refine V_aload_n 0 rfl rfl dX12_keep_10 ?_
    refine V_getI (f := 20) ci_X12 sh_69 rfl (by decide) dX12_keep_11 lk_RX12_f228 ?_
    refine V_bipush (v := 8) (by decide) dX12_keep_14 ?_
    refine V_icmp_ne (tgt := 22) dX12_keep_16 (by decide) (show inI (σ2 69 20) from (hR3.1 69 20 (by decide))) (by decide) (fun q6 => ?_) (fun q6 => ?_)
    · have h := h.1 q6
      refine V_aload_n 0 rfl rfl dX12_keep_22 ?_
      refine V_getR (f := 21) ci_X12 sh_69 rfl (by decide) (c1 := 81) rfl dX12_keep_23 lk_RX12_f43 ?_
      refine V_aload_n 0 rfl rfl dX12_keep_26 ?_
      refine V_getI (f := 20) ci_X12 sh_69 rfl (by decide) dX12_keep_27 lk_RX12_f228 ?_
      refine V_aload_n 0 rfl rfl dX12_keep_30 ?_
      refine V_getI (f := 16) ci_X12 sh_69 rfl (by decide) dX12_keep_31 lk_RX12_f185 ?_
      obtain ⟨g7, h⟩ := h
      refine V_iast sh_81 (by decide) g7 (show inI (σ2 69 16) from (hR3.1 69 16 (by decide))) dX12_keep_34 ?_
      refine V_iconst dX12_keep_35 ?_
      refine V_istore_n (L' := [(1, .int (gI 0)), (0, .ref (cxA X 69))]) rfl (by decide) rfl dX12_keep_36 ?_
      exact V_sub [1, 0] rfl h
    · have h := h.2 q6
      refine V_bipush (v := -5) (by decide) dX12_keep_19 ?_
      exact V_iret rfl (fun _ q => by cases q) (vp_nar_int _) dX12_keep_21 h
  · have h := h.2 q5
    refine V_bipush (v := -4) (by decide) dX12_keep_7 ?_
    exact V_iret rfl (fun _ q => by cases q) (vp_nar_int _) dX12_keep_9 h
set_option maxHeartbeats 2000000 in
set_option maxRecDepth 20000 in
theorem rX12_keep_37 {X : Cx} {v1 : Int} {σ : Sg} {Q : Int → Sg → Prop} (h : Rng σ → (inI v1) ∧ (((σ 69 16) ≤ v1 → (inI ((σ 69 20) + 1)) ∧ Q (((σ 69 20) + 1) - 1) (up2 (up2 σ 69 20 ((σ 69 20) + 1)) 69 8 0)) ∧ (v1 < (σ 69 16) → (0 ≤ v1 ∧ v1 < 24) ∧ (0 ≤ (24 * (σ 69 20)) + v1 ∧ (24 * (σ 69 20)) + v1 < 192) ∧ (0 ≤ v1 ∧ v1 < 24) ∧ (0 ≤ (24 * (σ 69 20)) + v1 ∧ (24 * (σ 69 20)) + v1 < 192) ∧ GX12_keep_37 X (v1 + 1) (up2 (up2 σ 82 (((24 * (σ 69 20)) + v1).toNat) (σ 78 v1.toNat)) 83 (((24 * (σ 69 20)) + v1).toNat) (σ 79 v1.toNat)) Q))) : GX12_keep_37 X v1 σ Q := by
  unfold GX12_keep_37
  refine V_rng (fun hR0 => ?_)
  have h := h hR0
  refine V_iload_n 1 rfl rfl dX12_keep_37 ?_
  refine V_aload_n 0 rfl rfl dX12_keep_38 ?_
  refine V_getI (f := 16) ci_X12 sh_69 rfl (by decide) dX12_keep_39 lk_RX12_f185 ?_
  obtain ⟨g1, h⟩ := h
  refine V_icmp_ge (tgt := 91) dX12_keep_42 (by decide) g1 (show inI (σ 69 16) from (hR0.1 69 16 (by decide))) (fun q2 => ?_) (fun q2 => ?_)
  · have h := h.1 q2
    refine V_aload_n 0 rfl rfl dX12_keep_91 ?_
    refine V_dup rfl dX12_keep_92 ?_
    refine V_getI (f := 20) ci_X12 sh_69 rfl (by decide) dX12_keep_93 lk_RX12_f228 ?_
    refine V_iconst dX12_keep_96 ?_
    refine V_iadd dX12_keep_97 ?_
    obtain ⟨g3, h⟩ := h
    refine V_putI (f := 20) ci_X12 sh_69 rfl (by decide) rfl rfl g3 dX12_keep_98 lk_RX12_f228 ?_
    refine V_aload_n 0 rfl rfl dX12_keep_101 ?_
    refine V_iconst dX12_keep_102 ?_
    refine V_putI (f := 8) ci_X12 sh_69 rfl (by decide) rfl rfl (by decide) dX12_keep_103 lk_RX12_f121 ?_
    refine V_aload_n 0 rfl rfl dX12_keep_106 ?_
    refine V_getI (f := 20) ci_X12 sh_69 rfl (by decide) dX12_keep_107 lk_RX12_f228 ?_
    refine V_iconst dX12_keep_110 ?_
    refine V_isub dX12_keep_111 ?_
    exact V_iret rfl (fun _ q => by cases q) (vp_nar_int _) dX12_keep_112 h
  · have h := h.2 q2
    refine V_aload_n 0 rfl rfl dX12_keep_45 ?_
    refine V_getR (f := 22) ci_X12 sh_69 rfl (by decide) (c1 := 82) rfl dX12_keep_46 lk_RX12_f46 ?_
    refine V_bipush (v := 24) (by decide) dX12_keep_49 ?_
    refine V_aload_n 0 rfl rfl dX12_keep_51 ?_
    refine V_getI (f := 20) ci_X12 sh_69 rfl (by decide) dX12_keep_52 lk_RX12_f228 ?_
    refine V_imul dX12_keep_55 ?_
    refine V_iload_n 1 rfl rfl dX12_keep_56 ?_
    refine V_iadd dX12_keep_57 ?_
    refine V_aload_n 0 rfl rfl dX12_keep_58 ?_
    refine V_getR (f := 17) ci_X12 sh_69 rfl (by decide) (c1 := 78) rfl dX12_keep_59 lk_RX12_f34 ?_
    refine V_iload_n 1 rfl rfl dX12_keep_62 ?_
    obtain ⟨g4, h⟩ := h
    refine V_iald sh_78 (by decide) g4 dX12_keep_63 ?_
    obtain ⟨g5, h⟩ := h
    refine V_iast sh_82 (by decide) g5 (show inI (σ 78 v1.toNat) from (inI_sh hR0 sh_78 (by decide))) dX12_keep_64 ?_
    refine V_aload_n 0 rfl rfl dX12_keep_65 ?_
    refine V_getR (f := 23) ci_X12 sh_69 rfl (by decide) (c1 := 83) rfl dX12_keep_66 lk_RX12_f49 ?_
    refine V_bipush (v := 24) (by decide) dX12_keep_69 ?_
    refine V_aload_n 0 rfl rfl dX12_keep_71 ?_
    refine V_getI (f := 20) ci_X12 sh_69 rfl (by decide) dX12_keep_72 lk_RX12_f228 ?_
    refine V_imul dX12_keep_75 ?_
    refine V_iload_n 1 rfl rfl dX12_keep_76 ?_
    refine V_iadd dX12_keep_77 ?_
    refine V_aload_n 0 rfl rfl dX12_keep_78 ?_
    refine V_getR (f := 18) ci_X12 sh_69 rfl (by decide) (c1 := 79) rfl dX12_keep_79 lk_RX12_f37 ?_
    refine V_iload_n 1 rfl rfl dX12_keep_82 ?_
    obtain ⟨g6, h⟩ := h
    refine V_iald sh_79 (by decide) g6 dX12_keep_83 ?_
    obtain ⟨g7, h⟩ := h
    refine V_iast sh_83 (by decide) g7 (show inI (σ 79 v1.toNat) from (inI_sh hR0 sh_79 (by decide))) dX12_keep_84 ?_
    refine V_iinc (L' := [(1, .int (gI (v1 + 1))), (0, .ref (cxA X 69))]) 1 rfl (by decide) rfl dX12_keep_85 ?_
    refine V_goto (tgt := 37) dX12_keep_88 (by decide) ?_
    exact V_sub [1, 0] rfl h
theorem eX12_keep {X : Cx} {σ : Sg} {Q : Int → Sg → Prop} (h : GX12_keep_0 X σ Q) : KX12_keep X σ Q := V_enter (by decide) (Nat.le_of_ble_eq_true rfl) rfl h
def GX12_recall_0 (X : Cx) (v1 : Int) (σ : Sg) (Q : Int → Sg → Prop) : Prop := VV X mX12_recall 0 [(0, .ref (cxA X 69)), (1, .int (gI v1))] [] σ Q
def GX12_recall_12 (X : Cx) (v1 : Int) (v2 : Int) (σ : Sg) (Q : Int → Sg → Prop) : Prop := VV X mX12_recall 12 [(0, .ref (cxA X 69)), (1, .int (gI v1)), (2, .int (gI v2))] [] σ Q
set_option maxHeartbeats 2000000 in
set_option maxRecDepth 20000 in
theorem rX12_recall_0 {X : Cx} {v1 : Int} {σ : Sg} {Q : Int → Sg → Prop} (h : Rng σ → (0 ≤ v1 ∧ v1 < 8) ∧ GX12_recall_12 X v1 0 (up2 σ 69 16 (σ 81 v1.toNat)) Q) : GX12_recall_0 X v1 σ Q := by
  unfold GX12_recall_0
  refine V_rng (fun hR0 => ?_)
  have h := h hR0
  refine V_aload_n 0 rfl rfl dX12_recall_0 ?_
  refine V_aload_n 0 rfl rfl dX12_recall_1 ?_
  refine V_getR (f := 21) ci_X12 sh_69 rfl (by decide) (c1 := 81) rfl dX12_recall_2 lk_RX12_f43 ?_
  refine V_iload_n 1 rfl rfl dX12_recall_5 ?_
  obtain ⟨g1, h⟩ := h
  refine V_iald sh_81 (by decide) g1 dX12_recall_6 ?_
  refine V_putI (f := 16) ci_X12 sh_69 rfl (by decide) rfl rfl (show inI (σ 81 v1.toNat) from (inI_sh hR0 sh_81 (by decide))) dX12_recall_7 lk_RX12_f185 ?_
  refine V_iconst dX12_recall_10 ?_
  refine V_istore_n (L' := [(2, .int (gI 0)), (0, .ref (cxA X 69)), (1, .int (gI v1))]) rfl (by decide) rfl dX12_recall_11 ?_
  exact V_sub [1, 2, 0] rfl h
set_option maxHeartbeats 2000000 in
set_option maxRecDepth 20000 in
theorem rX12_recall_12 {X : Cx} {v1 : Int} {v2 : Int} {σ : Sg} {Q : Int → Sg → Prop} (h : Rng σ → (inI v2) ∧ (((σ 69 16) ≤ v2 → Q 0 σ) ∧ (v2 < (σ 69 16) → (0 ≤ (24 * v1) + v2 ∧ (24 * v1) + v2 < 192) ∧ (0 ≤ v2 ∧ v2 < 24) ∧ (0 ≤ (24 * v1) + v2 ∧ (24 * v1) + v2 < 192) ∧ (0 ≤ v2 ∧ v2 < 24) ∧ GX12_recall_12 X v1 (v2 + 1) (up2 (up2 σ 78 v2.toNat (σ 82 (((24 * v1) + v2).toNat))) 79 v2.toNat (σ 83 (((24 * v1) + v2).toNat))) Q))) : GX12_recall_12 X v1 v2 σ Q := by
  unfold GX12_recall_12
  refine V_rng (fun hR0 => ?_)
  have h := h hR0
  refine V_iload_n 2 rfl rfl dX12_recall_12 ?_
  refine V_aload_n 0 rfl rfl dX12_recall_13 ?_
  refine V_getI (f := 16) ci_X12 sh_69 rfl (by decide) dX12_recall_14 lk_RX12_f185 ?_
  obtain ⟨g1, h⟩ := h
  refine V_icmp_ge (tgt := 60) dX12_recall_17 (by decide) g1 (show inI (σ 69 16) from (hR0.1 69 16 (by decide))) (fun q2 => ?_) (fun q2 => ?_)
  · have h := h.1 q2
    exact V_vret rfl dX12_recall_60 h
  · have h := h.2 q2
    refine V_aload_n 0 rfl rfl dX12_recall_20 ?_
    refine V_getR (f := 17) ci_X12 sh_69 rfl (by decide) (c1 := 78) rfl dX12_recall_21 lk_RX12_f34 ?_
    refine V_iload_n 2 rfl rfl dX12_recall_24 ?_
    refine V_aload_n 0 rfl rfl dX12_recall_25 ?_
    refine V_getR (f := 22) ci_X12 sh_69 rfl (by decide) (c1 := 82) rfl dX12_recall_26 lk_RX12_f46 ?_
    refine V_bipush (v := 24) (by decide) dX12_recall_29 ?_
    refine V_iload_n 1 rfl rfl dX12_recall_31 ?_
    refine V_imul dX12_recall_32 ?_
    refine V_iload_n 2 rfl rfl dX12_recall_33 ?_
    refine V_iadd dX12_recall_34 ?_
    obtain ⟨g3, h⟩ := h
    refine V_iald sh_82 (by decide) g3 dX12_recall_35 ?_
    obtain ⟨g4, h⟩ := h
    refine V_iast sh_78 (by decide) g4 (show inI (σ 82 (((24 * v1) + v2).toNat)) from (inI_sh hR0 sh_82 (by decide))) dX12_recall_36 ?_
    refine V_aload_n 0 rfl rfl dX12_recall_37 ?_
    refine V_getR (f := 18) ci_X12 sh_69 rfl (by decide) (c1 := 79) rfl dX12_recall_38 lk_RX12_f37 ?_
    refine V_iload_n 2 rfl rfl dX12_recall_41 ?_
    refine V_aload_n 0 rfl rfl dX12_recall_42 ?_
    refine V_getR (f := 23) ci_X12 sh_69 rfl (by decide) (c1 := 83) rfl dX12_recall_43 lk_RX12_f49 ?_
    refine V_bipush (v := 24) (by decide) dX12_recall_46 ?_
    refine V_iload_n 1 rfl rfl dX12_recall_48 ?_
    refine V_imul dX12_recall_49 ?_
    refine V_iload_n 2 rfl rfl dX12_recall_50 ?_
    refine V_iadd dX12_recall_51 ?_
    obtain ⟨g5, h⟩ := h
    refine V_iald sh_83 (by decide) g5 dX12_recall_52 ?_
    obtain ⟨g6, h⟩ := h
    refine V_iast sh_79 (by decide) g6 (show inI (σ 83 (((24 * v1) + v2).toNat)) from (inI_sh hR0 sh_83 (by decide))) dX12_recall_53 ?_
    refine V_iinc (L' := [(2, .int (gI (v2 + 1))), (0, .ref (cxA X 69)), (1, .int (gI v1))]) 2 rfl (by decide) rfl dX12_recall_54 ?_
    refine V_goto (tgt := 12) dX12_recall_57 (by decide) ?_
    exact V_sub [1, 2, 0] rfl h
theorem eX12_recall {X : Cx} {v1 : Int} {σ : Sg} {Q : Int → Sg → Prop} (h : GX12_recall_0 X v1 σ Q) : KX12_recall X v1 σ Q := V_enter (by decide) (Nat.le_of_ble_eq_true rfl) rfl h
