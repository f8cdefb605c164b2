/-! printed by program: X9_isAhead X9_offer X9_offerNamed X9_start X9_nearest X9_reach X9_turn X9_joinTwo X9_joinAll X9_fill X9_isReached X9_worthOf X0_tryMark X0_find X9_codeAt X11_thing X11_paint X11_tie X11_of X11_price X11_write X11_erase X11_fault X11_told X11_says X11_keep X11_kept X11_waysWith X11_cheapest X11_sets X11_quick X11_twin X11_firstBreak X11_breaks X11_think X11_hears X11_tells X11_ends X11_wrong X11_name X11_hush X11_talk X11_worth X11_count -/
def GX9_isAhead_0 (X : Cx) (c0 : Nat) (v1 : Int) (v2 : Int) (σ : Sg) (Q : Int → Sg → Prop) : Prop := VV X mX9_isAhead 0 [(0, .ref (cxA X c0)), (1, .int (gI v1)), (2, .int (gI v2))] [] σ Q
set_option maxHeartbeats 2000000 in
set_option maxRecDepth 20000 in
theorem rX9_isAhead_0 {X : Cx} {c0 : Nat} {v1 : Int} {v2 : Int} (hc0 : isWay c0) {σ : Sg} {Q : Int → Sg → Prop} (h : Rng σ → (((zshr v1 16) = (zshr v2 16) → (0 ≤ zand (zshr v1 8) 255 ∧ zand (zshr v1 8) 255 < 256) ∧ (0 ≤ zand (zshr v2 8) 255 ∧ zand (zshr v2 8) 255 < 256) ∧ (((σ (c0 + 4) ((zand (zshr v1 8) 255).toNat)) = (σ (c0 + 4) ((zand (zshr v2 8) 255).toNat)) → (0 ≤ zand v1 255 ∧ zand v1 255 < 256) ∧ (0 ≤ zand v2 255 ∧ zand v2 255 < 256) ∧ (((σ (c0 + 4) ((zand v2 255).toNat)) ≤ (σ (c0 + 4) ((zand v1 255).toNat)) → Q 0 σ) ∧ ((σ (c0 + 4) ((zand v1 255).toNat)) < (σ (c0 + 4) ((zand v2 255).toNat)) → Q 1 σ))) ∧ (¬ (σ (c0 + 4) ((zand (zshr v1 8) 255).toNat)) = (σ (c0 + 4) ((zand (zshr v2 8) 255).toNat)) → (((σ (c0 + 4) ((zand (zshr v2 8) 255).toNat)) ≤ (σ (c0 + 4) ((zand (zshr v1 8) 255).toNat)) → Q 0 σ) ∧ ((σ (c0 + 4) ((zand (zshr v1 8) 255).toNat)) < (σ (c0 + 4) ((zand (zshr v2 8) 255).toNat)) → Q 1 σ))))) ∧ (¬ (zshr v1 16) = (zshr v2 16) → (((zshr v2 16) ≤ (zshr v1 16) → Q 0 σ) ∧ ((zshr v1 16) < (zshr v2 16) → Q 1 σ))))) : GX9_isAhead_0 X c0 v1 v2 σ Q := by
  unfold GX9_isAhead_0
  refine V_rng (fun hR0 => ?_)
  have h := h hR0
  refine V_iload_n 1 rfl rfl dX9_isAhead_0 ?_
  refine V_bipush (v := 16) (by decide) dX9_isAhead_1 ?_
  refine V_ishr dX9_isAhead_3 ?_
  refine V_iload_n 2 rfl rfl dX9_isAhead_4 ?_
  refine V_bipush (v := 16) (by decide) dX9_isAhead_5 ?_
  refine V_ishr dX9_isAhead_7 ?_
  refine V_icmp_eq (tgt := 28) dX9_isAhead_8 (by decide) (inI_z _) (inI_z _) (fun q1 => ?_) (fun q1 => ?_)
  · have h := h.1 q1
    refine V_aload_n 0 rfl rfl dX9_isAhead_28 ?_
    refine V_getR (f := 3) ci_X9 hc0.1 rfl (by decide) (c1 := (c0 + 4)) rfl dX9_isAhead_29 lk_RX9_f21 ?_
    refine V_iload_n 1 rfl rfl dX9_isAhead_32 ?_
    refine V_bipush (v := 8) (by decide) dX9_isAhead_33 ?_
    refine V_ishr dX9_isAhead_35 ?_
    refine V_sipush (v := 255) (by decide) dX9_isAhead_36 ?_
    refine V_iand dX9_isAhead_39 ?_
    obtain ⟨g2, h⟩ := h
    refine V_iald hc0.2.2.2.2.1 (by decide) g2 dX9_isAhead_40 ?_
    refine V_istore_n (L' := [(3, .int (gI (σ (c0 + 4) ((zand (zshr v1 8) 255).toNat)))), (0, .ref (cxA X c0)), (1, .int (gI v1)), (2, .int (gI v2))]) rfl (by decide) rfl dX9_isAhead_41 ?_
    refine V_aload_n 1 rfl rfl dX9_isAhead_42 ?_
    refine V_getR (f := 3) ci_X9 hc0.1 rfl (by decide) (c1 := (c0 + 4)) rfl dX9_isAhead_43 lk_RX9_f21 ?_
    refine V_iload_n 3 rfl rfl dX9_isAhead_46 ?_
    refine V_bipush (v := 8) (by decide) dX9_isAhead_47 ?_
    refine V_ishr dX9_isAhead_49 ?_
    refine V_sipush (v := 255) (by decide) dX9_isAhead_50 ?_
    refine V_iand dX9_isAhead_53 ?_
    obtain ⟨g3, h⟩ := h
    refine V_iald hc0.2.2.2.2.1 (by decide) g3 dX9_isAhead_54 ?_
    refine V_istore (L' := [(4, .int (gI (σ (c0 + 4) ((zand (zshr v2 8) 255).toNat)))), (3, .int (gI (σ (c0 + 4) ((zand (zshr v1 8) 255).toNat)))), (0, .ref (cxA X c0)), (1, .int (gI v1)), (2, .int (gI v2))]) (by decide) rfl dX9_isAhead_55 ?_
    refine V_iload_n 1 rfl rfl dX9_isAhead_57 ?_
    refine V_iload 0 rfl dX9_isAhead_58 ?_
    refine V_icmp_eq (tgt := 77) dX9_isAhead_60 (by decide) (show inI (σ (c0 + 4) ((zand (zshr v1 8) 255).toNat)) from (inI_sh hR0 hc0.2.2.2.2.1 (by decide))) (show inI (σ (c0 + 4) ((zand (zshr v2 8) 255).toNat)) from (inI_sh hR0 hc0.2.2.2.2.1 (by decide))) (fun q4 => ?_) (fun q4 => ?_)
    · have h := h.1 q4
      refine V_aload_n 2 rfl rfl dX9_isAhead_77 ?_
      refine V_getR (f := 3) ci_X9 hc0.1 rfl (by decide) (c1 := (c0 + 4)) rfl dX9_isAhead_78 lk_RX9_f21 ?_
      refine V_iload_n 3 rfl rfl dX9_isAhead_81 ?_
      refine V_sipush (v := 255) (by decide) dX9_isAhead_82 ?_
      refine V_iand dX9_isAhead_85 ?_
      obtain ⟨g5, h⟩ := h
      refine V_iald hc0.2.2.2.2.1 (by decide) g5 dX9_isAhead_86 ?_
      refine V_aload_n 2 rfl rfl dX9_isAhead_87 ?_
      refine V_getR (f := 3) ci_X9 hc0.1 rfl (by decide) (c1 := (c0 + 4)) rfl dX9_isAhead_88 lk_RX9_f21 ?_
      refine V_iload_n 4 rfl rfl dX9_isAhead_91 ?_
      refine V_sipush (v := 255) (by decide) dX9_isAhead_92 ?_
      refine V_iand dX9_isAhead_95 ?_
      obtain ⟨g6, h⟩ := h
      refine V_iald hc0.2.2.2.2.1 (by decide) g6 dX9_isAhead_96 ?_
      refine V_icmp_ge (tgt := 104) dX9_isAhead_97 (by decide) (show inI (σ (c0 + 4) ((zand v1 255).toNat)) from (inI_sh hR0 hc0.2.2.2.2.1 (by decide))) (show inI (σ (c0 + 4) ((zand v2 255).toNat)) from (inI_sh hR0 hc0.2.2.2.2.1 (by decide))) (fun q7 => ?_) (fun q7 => ?_)
      · have h := h.1 q7
        refine V_iconst dX9_isAhead_104 ?_
        exact V_iret rfl (fun _ q => by cases q) (by decide) dX9_isAhead_105 h
      · have h := h.2 q7
        refine V_iconst dX9_isAhead_100 ?_
        refine V_goto (tgt := 105) dX9_isAhead_101 (by decide) ?_
        exact V_iret rfl (fun _ q => by cases q) (by decide) dX9_isAhead_105 h
    · have h := h.2 q4
      refine V_iload_n 1 rfl rfl dX9_isAhead_63 ?_
      refine V_iload 0 rfl dX9_isAhead_64 ?_
      refine V_icmp_ge (tgt := 73) dX9_isAhead_66 (by decide) (show inI (σ (c0 + 4) ((zand (zshr v1 8) 255).toNat)) from (inI_sh hR0 hc0.2.2.2.2.1 (by decide))) (show inI (σ (c0 + 4) ((zand (zshr v2 8) 255).toNat)) from (inI_sh hR0 hc0.2.2.2.2.1 (by decide))) (fun q8 => ?_) (fun q8 => ?_)
      · have h := h.1 q8
        refine V_iconst dX9_isAhead_73 ?_
        refine V_goto (tgt := 105) dX9_isAhead_74 (by decide) ?_
        exact V_iret rfl (fun _ q => by cases q) (by decide) dX9_isAhead_105 h
      · have h := h.2 q8
        refine V_iconst dX9_isAhead_69 ?_
        refine V_goto (tgt := 105) dX9_isAhead_70 (by decide) ?_
        exact V_iret rfl (fun _ q => by cases q) (by decide) dX9_isAhead_105 h
  · have h := h.2 q1
    refine V_iload_n 1 rfl rfl dX9_isAhead_11 ?_
    refine V_bipush (v := 16) (by decide) dX9_isAhead_12 ?_
    refine V_ishr dX9_isAhead_14 ?_
    refine V_iload_n 2 rfl rfl dX9_isAhead_15 ?_
    refine V_bipush (v := 16) (by decide) dX9_isAhead_16 ?_
    refine V_ishr dX9_isAhead_18 ?_
    refine V_icmp_ge (tgt := 26) dX9_isAhead_19 (by decide) (inI_z _) (inI_z _) (fun q9 => ?_) (fun q9 => ?_)
    · have h := h.1 q9
      refine V_iconst dX9_isAhead_26 ?_
      exact V_iret rfl (fun _ q => by cases q) (by decide) dX9_isAhead_27 h
    · have h := h.2 q9
      refine V_iconst dX9_isAhead_22 ?_
      refine V_goto (tgt := 27) dX9_isAhead_23 (by decide) ?_
      exact V_iret rfl (fun _ q => by cases q) (by decide) dX9_isAhead_27 h
theorem eX9_isAhead {X : Cx} {c0 : Nat} {v1 : Int} {v2 : Int} {σ : Sg} {Q : Int → Sg → Prop} (h : GX9_isAhead_0 X c0 v1 v2 σ Q) : KX9_isAhead X c0 v1 v2 σ Q := V_enter (by decide) (Nat.le_of_ble_eq_true rfl) rfl h
def GX9_offer_0 (X : Cx) (c0 : Nat) (v1 : Int) (v2 : Int) (v3 : Int) (σ : Sg) (Q : Int → Sg → Prop) : Prop := VV X mX9_offer 0 [(0, .ref (cxA X c0)), (1, .int (gI v1)), (2, .int (gI v2)), (3, .int (gI v3))] [] σ Q
def GX9_offer_63 (X : Cx) (c0 : Nat) (v1 : Int) (v2 : Int) (v3 : Int) (v4 : Int) (σ : Sg) (Q : Int → Sg → Prop) : Prop := VV X mX9_offer 63 [(0, .ref (cxA X c0)), (1, .int (gI v1)), (2, .int (gI v2)), (3, .int (gI v3)), (4, .int (gI v4))] [] σ Q
set_option maxHeartbeats 2000000 in
set_option maxRecDepth 20000 in
theorem rX9_offer_0 {X : Cx} {c0 : Nat} {v1 : Int} {v2 : Int} {v3 : Int} (hc0 : isWay c0) {σ : Sg} {Q : Int → Sg → Prop} (h : Rng σ → (0 ≤ zand v1 255 ∧ zand v1 255 < 256) ∧ ((¬ (σ (c0 + 4) ((zand v1 255).toNat)) = ((-1)) → Q 0 σ) ∧ ((σ (c0 + 4) ((zand v1 255).toNat)) = ((-1)) → (0 ≤ zand v1 255 ∧ zand v1 255 < 256) ∧ (inI v2) ∧ (((σ (c0 + 1) ((zand v1 255).toNat)) < v2 → Q 0 σ) ∧ (v2 ≤ (σ (c0 + 1) ((zand v1 255).toNat)) → (inI v2) ∧ ((v2 < 1000 → (0 ≤ zand v1 255 ∧ zand v1 255 < 256) ∧ (inI v2) ∧ ((v2 < (σ (c0 + 1) ((zand v1 255).toNat)) → GX9_offer_63 X c0 v1 v2 v3 (zand v1 255) σ Q) ∧ ((σ (c0 + 1) ((zand v1 255).toNat)) ≤ v2 → (0 ≤ zand v1 255 ∧ zand v1 255 < 256) ∧ KX9_isAhead X c0 v3 (σ (c0 + 3) ((zand v1 255).toNat)) σ (fun r12 σ13 => Rng σ13 → (inI r12) ∧ ((r12 = 0 → Q 0 σ13) ∧ (¬ r12 = 0 → GX9_offer_63 X c0 v1 v2 v3 (zand v1 255) σ13 Q)))))) ∧ (1000 ≤ v2 → Q 0 σ))))))) : GX9_offer_0 X c0 v1 v2 v3 σ Q := by
  unfold GX9_offer_0
  refine V_rng (fun hR0 => ?_)
  have h := h hR0
  refine V_iload_n 1 rfl rfl dX9_offer_0 ?_
  refine V_sipush (v := 255) (by decide) dX9_offer_1 ?_
  refine V_iand dX9_offer_4 ?_
  refine V_istore (L' := [(4, .int (gI (zand v1 255))), (0, .ref (cxA X c0)), (1, .int (gI v1)), (2, .int (gI v2)), (3, .int (gI v3))]) (by decide) rfl dX9_offer_5 ?_
  refine V_aload_n 1 rfl rfl dX9_offer_7 ?_
  refine V_getR (f := 3) ci_X9 hc0.1 rfl (by decide) (c1 := (c0 + 4)) rfl dX9_offer_8 lk_RX9_f21 ?_
  refine V_iload 0 rfl dX9_offer_11 ?_
  obtain ⟨g1, h⟩ := h
  refine V_iald hc0.2.2.2.2.1 (by decide) g1 dX9_offer_13 ?_
  refine V_iconst dX9_offer_14 ?_
  refine V_icmp_ne (tgt := 36) dX9_offer_15 (by decide) (show inI (σ (c0 + 4) ((zand v1 255).toNat)) from (inI_sh hR0 hc0.2.2.2.2.1 (by decide))) (by decide) (fun q2 => ?_) (fun q2 => ?_)
  · have h := h.1 q2
    exact V_vret rfl dX9_offer_36 h
  · have h := h.2 q2
    refine V_iload_n 3 rfl rfl dX9_offer_18 ?_
    refine V_aload_n 1 rfl rfl dX9_offer_19 ?_
    refine V_getR (f := 0) ci_X9 hc0.1 rfl (by decide) (c1 := (c0 + 1)) rfl dX9_offer_20 lk_RX9_f9 ?_
    refine V_iload 0 rfl dX9_offer_23 ?_
    obtain ⟨g3, h⟩ := h
    refine V_iald hc0.2.1 (by decide) g3 dX9_offer_25 ?_
    obtain ⟨g4, h⟩ := h
    refine V_icmp_gt (tgt := 36) dX9_offer_26 (by decide) g4 (show inI (σ (c0 + 1) ((zand v1 255).toNat)) from (inI_sh hR0 hc0.2.1 (by decide))) (fun q5 => ?_) (fun q5 => ?_)
    · have h := h.1 q5
      exact V_vret rfl dX9_offer_36 h
    · have h := h.2 q5
      refine V_iload_n 3 rfl rfl dX9_offer_29 ?_
      refine V_sipush (v := 1000) (by decide) dX9_offer_30 ?_
      obtain ⟨g6, h⟩ := h
      refine V_icmp_lt (tgt := 37) dX9_offer_33 (by decide) g6 (by decide) (fun q7 => ?_) (fun q7 => ?_)
      · have h := h.1 q7
        refine V_iload_n 3 rfl rfl dX9_offer_37 ?_
        refine V_aload_n 1 rfl rfl dX9_offer_38 ?_
        refine V_getR (f := 0) ci_X9 hc0.1 rfl (by decide) (c1 := (c0 + 1)) rfl dX9_offer_39 lk_RX9_f9 ?_
        refine V_iload 0 rfl dX9_offer_42 ?_
        obtain ⟨g8, h⟩ := h
        refine V_iald hc0.2.1 (by decide) g8 dX9_offer_44 ?_
        obtain ⟨g9, h⟩ := h
        refine V_icmp_lt (tgt := 63) dX9_offer_45 (by decide) g9 (show inI (σ (c0 + 1) ((zand v1 255).toNat)) from (inI_sh hR0 hc0.2.1 (by decide))) (fun q10 => ?_) (fun q10 => ?_)
        · have h := h.1 q10
          exact V_sub [1, 2, 3, 4, 0] rfl h
        · have h := h.2 q10
          refine V_aload_n 1 rfl rfl dX9_offer_48 ?_
          refine V_iload_n 4 rfl rfl dX9_offer_49 ?_
          refine V_aload_n 1 rfl rfl dX9_offer_50 ?_
          refine V_getR (f := 2) ci_X9 hc0.1 rfl (by decide) (c1 := (c0 + 3)) rfl dX9_offer_51 lk_RX9_f18 ?_
          refine V_iload 0 rfl dX9_offer_54 ?_
          obtain ⟨g11, h⟩ := h
          refine V_iald hc0.2.2.2.1 (by decide) g11 dX9_offer_56 ?_
          refine V_cV (M' := mX9_isAhead) (As := [.int (gI v3), .int (gI (σ (c0 + 3) ((zand v1 255).toNat)))]) (fun r => [.int (gI r)]) ok_X9_isAhead ok2_X9_isAhead hc0.1 rfl (by decide) rfl rfl (Nat.le_of_ble_eq_true rfl) dX9_offer_57 lk_RX9_m125 (by decide) (fun _ => rfl) h (fun r12 σ13 h => ?_)
          refine V_rng (fun hR14 => ?_)
          have h := h hR14
          obtain ⟨g15, h⟩ := h
          refine V_if_eq (tgt := 79) dX9_offer_60 (by decide) g15 (fun q16 => ?_) (fun q16 => ?_)
          · have h := h.1 q16
            exact V_vret rfl dX9_offer_79 h
          · have h := h.2 q16
            exact V_sub [1, 2, 3, 4, 0] rfl h
      · have h := h.2 q7
        exact V_vret rfl dX9_offer_36 h
set_option maxHeartbeats 2000000 in
set_option maxRecDepth 20000 in
theorem rX9_offer_63 {X : Cx} {c0 : Nat} {v1 : Int} {v2 : Int} {v3 : Int} {v4 : Int} (hc0 : isWay c0) {σ : Sg} {Q : Int → Sg → Prop} (h : Rng σ → (0 ≤ v4 ∧ v4 < 256) ∧ (inI v2) ∧ (0 ≤ v4 ∧ v4 < 256) ∧ (inI v3) ∧ Q 0 (up2 (up2 σ (c0 + 1) v4.toNat v2) (c0 + 3) v4.toNat v3)) : GX9_offer_63 X c0 v1 v2 v3 v4 σ Q := by
  unfold GX9_offer_63
  refine V_rng (fun hR0 => ?_)
  have h := h hR0
  refine V_aload_n 0 rfl rfl dX9_offer_63 ?_
  refine V_getR (f := 0) ci_X9 hc0.1 rfl (by decide) (c1 := (c0 + 1)) rfl dX9_offer_64 lk_RX9_f9 ?_
  refine V_iload 4 rfl dX9_offer_67 ?_
  refine V_iload_n 2 rfl rfl dX9_offer_69 ?_
  obtain ⟨g1, h⟩ := h
  obtain ⟨g2, h⟩ := h
  refine V_iast hc0.2.1 (by decide) g1 g2 dX9_offer_70 ?_
  refine V_aload_n 0 rfl rfl dX9_offer_71 ?_
  refine V_getR (f := 2) ci_X9 hc0.1 rfl (by decide) (c1 := (c0 + 3)) rfl dX9_offer_72 lk_RX9_f18 ?_
  refine V_iload 4 rfl dX9_offer_75 ?_
  refine V_iload_n 3 rfl rfl dX9_offer_77 ?_
  obtain ⟨g3, h⟩ := h
  obtain ⟨g4, h⟩ := h
  refine V_iast hc0.2.2.2.1 (by decide) g3 g4 dX9_offer_78 ?_
  exact V_vret rfl dX9_offer_79 h
theorem eX9_offer {X : Cx} {c0 : Nat} {v1 : Int} {v2 : Int} {v3 : Int} {σ : Sg} {Q : Int → Sg → Prop} (h : GX9_offer_0 X c0 v1 v2 v3 σ Q) : KX9_offer X c0 v1 v2 v3 σ Q := V_enter (by decide) (Nat.le_of_ble_eq_true rfl) rfl h
def GX9_offerNamed_0 (X : Cx) (c0 : Nat) (v2 : Int) (v3 : Int) (σ : Sg) (Q : Int → Sg → Prop) : Prop := VV X mX9_offerNamed 0 [(0, .ref (cxA X c0)), (1, .ref (cxA X 1)), (2, .int (gI v2)), (3, .int (gI v3))] [] σ Q
def GX9_offerNamed_13 (X : Cx) (c0 : Nat) (v2 : Int) (v3 : Int) (v4 : Int) (v5 : Int) (σ : Sg) (Q : Int → Sg → Prop) : Prop := VV X mX9_offerNamed 13 [(0, .ref (cxA X c0)), (1, .ref (cxA X 1)), (2, .int (gI v2)), (3, .int (gI v3)), (4, .int (gI v4)), (5, .int (gI v5))] [] σ Q
set_option maxHeartbeats 2000000 in
set_option maxRecDepth 20000 in
theorem rX9_offerNamed_0 {X : Cx} {c0 : Nat} {v2 : Int} {v3 : Int} (hc0 : isWay c0) {σ : Sg} {Q : Int → Sg → Prop} (h : Rng σ → KX10_numbers X v3 σ (fun r1 σ2 => Rng σ2 → (inI r1) ∧ GX9_offerNamed_13 X c0 v2 v3 ((if 1 < r1 then r1 else 1)) 0 σ2 Q)) : GX9_offerNamed_0 X c0 v2 v3 σ Q := by
  unfold GX9_offerNamed_0
  refine V_rng (fun hR0 => ?_)
  have h := h hR0
  refine V_iconst dX9_offerNamed_0 ?_
  refine V_iload_n 3 rfl rfl dX9_offerNamed_1 ?_
  refine V_cS (M' := mX10_numbers) (As := [.int (gI v3)]) (fun r => [.int (gI r), .int (gI 1)]) ok_X10_numbers ok2_X10_numbers rfl rfl (Nat.le_of_ble_eq_true rfl) dX9_offerNamed_2 lk_RX9_m104 (by decide) (fun _ => rfl) h (fun r1 σ2 h => ?_)
  refine V_rng (fun hR3 => ?_)
  have h := h hR3
  obtain ⟨g4, h⟩ := h
  refine V_mmax (by decide) g4 ok_mmax dX9_offerNamed_5 lk_RX9_m107 (by decide) (Nat.le_of_ble_eq_true rfl) ?_
  refine V_istore (L' := [(4, .int (gI ((if 1 < r1 then r1 else 1)))), (0, .ref (cxA X c0)), (1, .ref (cxA X 1)), (2, .int (gI v2)), (3, .int (gI v3))]) (by decide) rfl dX9_offerNamed_8 ?_
  refine V_iconst dX9_offerNamed_10 ?_
  refine V_istore (L' := [(5, .int (gI 0)), (4, .int (gI ((if 1 < r1 then r1 else 1)))), (0, .ref (cxA X c0)), (1, .ref (cxA X 1)), (2, .int (gI v2)), (3, .int (gI v3))]) (by decide) rfl dX9_offerNamed_11 ?_
  exact V_sub [2, 3, 4, 5, 1, 0] rfl h
set_option maxHeartbeats 2000000 in
set_option maxRecDepth 20000 in
theorem rX9_offerNamed_13 {X : Cx} {c0 : Nat} {v2 : Int} {v3 : Int} {v4 : Int} {v5 : Int} (hc0 : isWay c0) {σ : Sg} {Q : Int → Sg → Prop} (h : Rng σ → (inI v5) ∧ (inI v4) ∧ ((v4 ≤ v5 → Q 0 σ) ∧ (v5 < v4 → KX5_named X ((8 * v3) + v5) σ (fun r4 σ5 => Rng σ5 → KX9_offer X c0 r4 v2 (zshl ((8 * v3) + v5) 16) σ5 (fun r7 σ8 => Rng σ8 → GX9_offerNamed_13 X c0 v2 v3 v4 (v5 + 1) σ8 Q))))) : GX9_offerNamed_13 X c0 v2 v3 v4 v5 σ Q := by
  unfold GX9_offerNamed_13
  refine V_rng (fun hR0 => ?_)
  have h := h hR0
  refine V_iload 5 rfl dX9_offerNamed_13 ?_
  refine V_iload 4 rfl dX9_offerNamed_15 ?_
  obtain ⟨g1, h⟩ := h
  obtain ⟨g2, h⟩ := h
  refine V_icmp_ge (tgt := 51) dX9_offerNamed_17 (by decide) g1 g2 (fun q3 => ?_) (fun q3 => ?_)
  · have h := h.1 q3
    exact V_vret rfl dX9_offerNamed_51 h
  · have h := h.2 q3
    refine V_bipush (v := 8) (by decide) dX9_offerNamed_20 ?_
    refine V_iload_n 3 rfl rfl dX9_offerNamed_22 ?_
    refine V_imul dX9_offerNamed_23 ?_
    refine V_iload 5 rfl dX9_offerNamed_24 ?_
    refine V_iadd dX9_offerNamed_26 ?_
    refine V_istore (L' := [(6, .int (gI ((8 * v3) + v5))), (0, .ref (cxA X c0)), (1, .ref (cxA X 1)), (2, .int (gI v2)), (3, .int (gI v3)), (4, .int (gI v4)), (5, .int (gI v5))]) (by decide) rfl dX9_offerNamed_27 ?_
    refine V_aload_n 1 rfl rfl dX9_offerNamed_29 ?_
    refine V_aload_n 2 rfl rfl dX9_offerNamed_30 ?_
    refine V_iload 0 rfl dX9_offerNamed_31 ?_
    refine V_cV (M' := mX5_named) (As := [.int (gI ((8 * v3) + v5))]) (fun r => [.int (gI r), .ref (cxA X c0)]) ok_X5_named ok2_X5_named sh_1 rfl (by decide) rfl rfl (Nat.le_of_ble_eq_true rfl) dX9_offerNamed_33 lk_RX9_m110 (by decide) (fun _ => rfl) h (fun r4 σ5 h => ?_)
    refine V_rng (fun hR6 => ?_)
    have h := h hR6
    refine V_iload_n 3 rfl rfl dX9_offerNamed_36 ?_
    refine V_iload 0 rfl dX9_offerNamed_37 ?_
    refine V_bipush (v := 16) (by decide) dX9_offerNamed_39 ?_
    refine V_ishl dX9_offerNamed_41 ?_
    refine V_cV (M' := mX9_offer) (As := [.int (gI r4), .int (gI v2), .int (gI (zshl ((8 * v3) + v5) 16))]) (fun _ => []) ok_X9_offer ok2_X9_offer hc0.1 rfl (by decide) rfl rfl (Nat.le_of_ble_eq_true rfl) dX9_offerNamed_42 lk_RX9_m113 (by decide) (fun _ => rfl) h (fun r7 σ8 h => ?_)
    refine V_rng (fun hR9 => ?_)
    have h := h hR9
    refine V_iinc (L' := [(5, .int (gI (v5 + 1))), (6, .int (gI ((8 * v3) + v5))), (0, .ref (cxA X c0)), (1, .ref (cxA X 1)), (2, .int (gI v2)), (3, .int (gI v3)), (4, .int (gI v4))]) 6 rfl (by decide) rfl dX9_offerNamed_45 ?_
    refine V_goto (tgt := 13) dX9_offerNamed_48 (by decide) ?_
    exact V_sub [2, 3, 4, 5, 6, 0] rfl h
theorem eX9_offerNamed {X : Cx} {c0 : Nat} {v2 : Int} {v3 : Int} {σ : Sg} {Q : Int → Sg → Prop} (h : GX9_offerNamed_0 X c0 v2 v3 σ Q) : KX9_offerNamed X c0 v2 v3 σ Q := V_enter (by decide) (Nat.le_of_ble_eq_true rfl) rfl h
def GX9_start_0 (X : Cx) (c0 : Nat) (σ : Sg) (Q : Int → Sg → Prop) : Prop := VV X mX9_start 0 [(0, .ref (cxA X c0)), (1, .ref (cxA X 1)), (2, .ref (cxA X 11))] [] σ Q
def GX9_start_32 (X : Cx) (c0 : Nat) (v3 : Int) (σ : Sg) (Q : Int → Sg → Prop) : Prop := VV X mX9_start 32 [(0, .ref (cxA X c0)), (1, .ref (cxA X 1)), (2, .ref (cxA X 11)), (3, .int (gI v3))] [] σ Q
def GX9_start_99 (X : Cx) (c0 : Nat) (v3 : Int) (σ : Sg) (Q : Int → Sg → Prop) : Prop := VV X mX9_start 99 [(0, .ref (cxA X c0)), (1, .ref (cxA X 1)), (2, .ref (cxA X 11)), (3, .int (gI v3))] [] σ Q
set_option maxHeartbeats 2000000 in
set_option maxRecDepth 20000 in
theorem rX9_start_0 {X : Cx} {c0 : Nat} (hc0 : isWay c0) {σ : Sg} {Q : Int → Sg → Prop} (h : Rng σ → KJ7_fill_53178 X (c0 + 1) 1000 (up2 σ c0 6 0) (fun r1 σ2 => Rng σ2 → KJ7_fill_53178 X (c0 + 4) ((-1)) σ2 (fun r4 σ5 => Rng σ5 → GX9_start_32 X c0 0 (up2 σ5 c0 11 1000) Q))) : GX9_start_0 X c0 σ Q := by
  unfold GX9_start_0
  refine V_rng (fun hR0 => ?_)
  have h := h hR0
  refine V_aload_n 0 rfl rfl dX9_start_0 ?_
  refine V_iconst dX9_start_1 ?_
  refine V_putI (f := 6) ci_X9 hc0.1 rfl (by decide) rfl rfl (by decide) dX9_start_2 lk_RX9_f75 ?_
  refine V_aload_n 0 rfl rfl dX9_start_5 ?_
  refine V_getR (f := 0) ci_X9 hc0.1 rfl (by decide) (c1 := (c0 + 1)) rfl dX9_start_6 lk_RX9_f9 ?_
  refine V_sipush (v := 1000) (by decide) dX9_start_9 ?_
  refine V_cS (M' := mJ7_fill_53178) (As := [.ref (cxA X (c0 + 1)), .int (gI 1000)]) (fun _ => []) ok_J7_fill_53178 ok2_J7_fill_53178 rfl rfl (Nat.le_of_ble_eq_true rfl) dX9_start_12 lk_RX9_m78 (by decide) (fun _ => rfl) h (fun r1 σ2 h => ?_)
  refine V_rng (fun hR3 => ?_)
  have h := h hR3
  refine V_aload_n 0 rfl rfl dX9_start_15 ?_
  refine V_getR (f := 3) ci_X9 hc0.1 rfl (by decide) (c1 := (c0 + 4)) rfl dX9_start_16 lk_RX9_f21 ?_
  refine V_iconst dX9_start_19 ?_
  refine V_cS (M' := mJ7_fill_53178) (As := [.ref (cxA X (c0 + 4)), .int (gI ((-1)))]) (fun _ => []) ok_J7_fill_53178 ok2_J7_fill_53178 rfl rfl (Nat.le_of_ble_eq_true rfl) dX9_start_20 lk_RX9_m78 (by decide) (fun _ => rfl) h (fun r4 σ5 h => ?_)
  refine V_rng (fun hR6 => ?_)
  have h := h hR6
  refine V_aload_n 0 rfl rfl dX9_start_23 ?_
  refine V_sipush (v := 1000) (by decide) dX9_start_24 ?_
  refine V_putI (f := 11) ci_X9 hc0.1 rfl (by decide) rfl rfl (by decide) dX9_start_27 lk_RX9_f83 ?_
  refine V_iconst dX9_start_30 ?_
  refine V_istore_n (L' := [(3, .int (gI 0)), (0, .ref (cxA X c0)), (1, .ref (cxA X 1)), (2, .ref (cxA X 11))]) rfl (by decide) rfl dX9_start_31 ?_
  exact V_sub [1, 2, 3, 0] rfl h
set_option maxHeartbeats 2000000 in
set_option maxRecDepth 20000 in
theorem rX9_start_32 {X : Cx} {c0 : Nat} {v3 : Int} (hc0 : isWay c0) {σ : Sg} {Q : Int → Sg → Prop} (h : Rng σ → (inI v3) ∧ ((15 ≤ v3 → Q 0 σ) ∧ (v3 < 15 → (inI v3) ∧ ((15 ≤ v3 → Q 0 σ) ∧ (v3 < 15 → KX10_isKnown X (σ c0 7) v3 σ (fun r5 σ6 => Rng σ6 → (inI r5) ∧ ((¬ r5 = 0 → KX10_parts X v3 σ6 (fun r10 σ11 => Rng σ11 → (inI r10) ∧ ((¬ r10 = 0 → KX10_parts X v3 σ11 (fun r15 σ16 => Rng σ16 → (inI r15) ∧ ((¬ r15 = 2 → GX9_start_99 X c0 v3 σ16 Q) ∧ (r15 = 2 → (0 ≤ v3 ∧ v3 < 15) ∧ (inI ((if (σ16 11 v3.toNat) < (σ16 c0 11) then (σ16 11 v3.toNat) else (σ16 c0 11)))) ∧ GX9_start_99 X c0 v3 (up2 σ16 c0 11 ((if (σ16 11 v3.toNat) < (σ16 c0 11) then (σ16 11 v3.toNat) else (σ16 c0 11)))) Q)))) ∧ (r10 = 0 → (0 ≤ v3 ∧ v3 < 15) ∧ KX9_offerNamed X c0 (σ11 11 v3.toNat) v3 σ11 (fun r23 σ24 => Rng σ24 → GX9_start_99 X c0 v3 σ24 Q))))) ∧ (r5 = 0 → GX9_start_99 X c0 v3 σ6 Q)))))))) : GX9_start_32 X c0 v3 σ Q := by
  unfold GX9_start_32
  refine V_rng (fun hR0 => ?_)
  have h := h hR0
  refine V_iload_n 3 rfl rfl dX9_start_32 ?_
  refine V_bipush (v := 15) (by decide) dX9_start_33 ?_
  obtain ⟨g1, h⟩ := h
  refine V_icmp_ge (tgt := 105) dX9_start_35 (by decide) g1 (by decide) (fun q2 => ?_) (fun q2 => ?_)
  · have h := h.1 q2
    exact V_vret rfl dX9_start_105 h
  · have h := h.2 q2
    refine V_iload_n 3 rfl rfl dX9_start_38 ?_
    refine V_aload_n 2 rfl rfl dX9_start_39 ?_
    refine V_alen sh_11 (by decide) (by decide) dX9_start_40 ?_
    obtain ⟨g3, h⟩ := h
    refine V_icmp_ge (tgt := 105) dX9_start_41 (by decide) g3 (by decide) (fun q4 => ?_) (fun q4 => ?_)
    · have h := h.1 q4
      exact V_vret rfl dX9_start_105 h
    · have h := h.2 q4
      refine V_aload_n 0 rfl rfl dX9_start_44 ?_
      refine V_getI (f := 7) ci_X9 hc0.1 rfl (by decide) dX9_start_45 lk_RX9_f42 ?_
      refine V_iload_n 3 rfl rfl dX9_start_48 ?_
      refine V_cS (M' := mX10_isKnown) (As := [.int (gI (σ c0 7)), .int (gI v3)]) (fun r => [.int (gI r)]) ok_X10_isKnown ok2_X10_isKnown rfl rfl (Nat.le_of_ble_eq_true rfl) dX9_start_49 lk_RX9_m88 (by decide) (fun _ => rfl) h (fun r5 σ6 h => ?_)
      refine V_rng (fun hR7 => ?_)
      have h := h hR7
      obtain ⟨g8, h⟩ := h
      refine V_if_ne (tgt := 58) dX9_start_52 (by decide) g8 (fun q9 => ?_) (fun q9 => ?_)
      · have h := h.1 q9
        refine V_iload_n 3 rfl rfl dX9_start_58 ?_
        refine V_cS (M' := mX10_parts) (As := [.int (gI v3)]) (fun r => [.int (gI r)]) ok_X10_parts ok2_X10_parts rfl rfl (Nat.le_of_ble_eq_true rfl) dX9_start_59 lk_RX9_m91 (by decide) (fun _ => rfl) h (fun r10 σ11 h => ?_)
        refine V_rng (fun hR12 => ?_)
        have h := h hR12
        obtain ⟨g13, h⟩ := h
        refine V_if_ne (tgt := 77) dX9_start_62 (by decide) g13 (fun q14 => ?_) (fun q14 => ?_)
        · have h := h.1 q14
          refine V_iload_n 3 rfl rfl dX9_start_77 ?_
          refine V_cS (M' := mX10_parts) (As := [.int (gI v3)]) (fun r => [.int (gI r)]) ok_X10_parts ok2_X10_parts rfl rfl (Nat.le_of_ble_eq_true rfl) dX9_start_78 lk_RX9_m91 (by decide) (fun _ => rfl) h (fun r15 σ16 h => ?_)
          refine V_rng (fun hR17 => ?_)
          have h := h hR17
          refine V_iconst dX9_start_81 ?_
          obtain ⟨g18, h⟩ := h
          refine V_icmp_ne (tgt := 99) dX9_start_82 (by decide) g18 (by decide) (fun q19 => ?_) (fun q19 => ?_)
          · have h := h.1 q19
            exact h
          · have h := h.2 q19
            refine V_aload_n 0 rfl rfl dX9_start_85 ?_
            refine V_aload_n 0 rfl rfl dX9_start_86 ?_
            refine V_getI (f := 11) ci_X9 hc0.1 rfl (by decide) dX9_start_87 lk_RX9_f83 ?_
            refine V_aload_n 2 rfl rfl dX9_start_90 ?_
            refine V_iload_n 3 rfl rfl dX9_start_91 ?_
            obtain ⟨g20, h⟩ := h
            refine V_iald sh_11 (by decide) g20 dX9_start_92 ?_
            refine V_mmin (show inI (σ16 c0 11) from (inI_sh hR17 hc0.1 (by decide))) (show inI (σ16 11 v3.toNat) from (inI_sh hR17 sh_11 (by decide))) ok_mmin dX9_start_93 lk_RX9_m98 (by decide) (Nat.le_of_ble_eq_true rfl) ?_
            obtain ⟨g21, h⟩ := h
            refine V_putI (f := 11) ci_X9 hc0.1 rfl (by decide) rfl rfl g21 dX9_start_96 lk_RX9_f83 ?_
            exact h
        · have h := h.2 q14
          refine V_aload_n 0 rfl rfl dX9_start_65 ?_
          refine V_aload_n 1 rfl rfl dX9_start_66 ?_
          refine V_aload_n 2 rfl rfl dX9_start_67 ?_
          refine V_iload_n 3 rfl rfl dX9_start_68 ?_
          obtain ⟨g22, h⟩ := h
          refine V_iald sh_11 (by decide) g22 dX9_start_69 ?_
          refine V_iload_n 3 rfl rfl dX9_start_70 ?_
          refine V_cV (M' := mX9_offerNamed) (As := [.ref (cxA X 1), .int (gI (σ11 11 v3.toNat)), .int (gI v3)]) (fun _ => []) ok_X9_offerNamed ok2_X9_offerNamed hc0.1 rfl (by decide) rfl rfl (Nat.le_of_ble_eq_true rfl) dX9_start_71 lk_RX9_m94 (by decide) (fun _ => rfl) h (fun r23 σ24 h => ?_)
          refine V_rng (fun hR25 => ?_)
          have h := h hR25
          refine V_goto (tgt := 99) dX9_start_74 (by decide) ?_
          exact h
      · have h := h.2 q9
        refine V_goto (tgt := 99) dX9_start_55 (by decide) ?_
        exact h
set_option maxHeartbeats 2000000 in
set_option maxRecDepth 20000 in
theorem rX9_start_99 {X : Cx} {c0 : Nat} {v3 : Int} (hc0 : isWay c0) {σ : Sg} {Q : Int → Sg → Prop} (h : Rng σ → GX9_start_32 X c0 (v3 + 1) σ Q) : GX9_start_99 X c0 v3 σ Q := by
  unfold GX9_start_99
  refine V_rng (fun hR0 => ?_)
  have h := h hR0
  refine V_iinc (L' := [(3, .int (gI (v3 + 1))), (0, .ref (cxA X c0)), (1, .ref (cxA X 1)), (2, .ref (cxA X 11))]) 3 rfl (by decide) rfl dX9_start_99 ?_
  refine V_goto (tgt := 32) dX9_start_102 (by decide) ?_
  exact V_sub [1, 2, 3, 0] rfl h
theorem eX9_start {X : Cx} {c0 : Nat} {σ : Sg} {Q : Int → Sg → Prop} (h : GX9_start_0 X c0 σ Q) : KX9_start X c0 σ Q := V_enter (by decide) (Nat.le_of_ble_eq_true rfl) rfl h
def GX9_nearest_0 (X : Cx) (c0 : Nat) (v1 : Int) (σ : Sg) (Q : Int → Sg → Prop) : Prop := VV X mX9_nearest 0 [(0, .ref (cxA X c0)), (1, .int (gI v1))] [] σ Q
def GX9_nearest_14 (X : Cx) (c0 : Nat) (v1 : Int) (v2 : Int) (v3 : Int) (v4 : Int) (σ : Sg) (Q : Int → Sg → Prop) : Prop := VV X mX9_nearest 14 [(0, .ref (cxA X c0)), (1, .int (gI v1)), (2, .int (gI v2)), (3, .int (gI v3)), (4, .int (gI v4))] [] σ Q
def GX9_nearest_64 (X : Cx) (c0 : Nat) (v1 : Int) (v2 : Int) (v3 : Int) (v4 : Int) (σ : Sg) (Q : Int → Sg → Prop) : Prop := VV X mX9_nearest 64 [(0, .ref (cxA X c0)), (1, .int (gI v1)), (2, .int (gI v2)), (3, .int (gI v3)), (4, .int (gI v4))] [] σ Q
def GX9_nearest_94 (X : Cx) (c0 : Nat) (v1 : Int) (v2 : Int) (v3 : Int) (v4 : Int) (σ : Sg) (Q : Int → Sg → Prop) : Prop := VV X mX9_nearest 94 [(0, .ref (cxA X c0)), (1, .int (gI v1)), (2, .int (gI v2)), (3, .int (gI v3)), (4, .int (gI v4))] [] σ Q
def GX9_nearest_105 (X : Cx) (c0 : Nat) (v1 : Int) (v2 : Int) (v3 : Int) (v4 : Int) (σ : Sg) (Q : Int → Sg → Prop) : Prop := VV X mX9_nearest 105 [(0, .ref (cxA X c0)), (1, .int (gI v1)), (2, .int (gI v2)), (3, .int (gI v3)), (4, .int (gI v4))] [] σ Q
def GX9_nearest_111 (X : Cx) (c0 : Nat) (v1 : Int) (v2 : Int) (v3 : Int) (v4 : Int) (σ : Sg) (Q : Int → Sg → Prop) : Prop := VV X mX9_nearest 111 [(0, .ref (cxA X c0)), (1, .int (gI v1)), (2, .int (gI v2)), (3, .int (gI v3)), (4, .int (gI v4))] [] σ Q
set_option maxHeartbeats 2000000 in
set_option maxRecDepth 20000 in
theorem rX9_nearest_0 {X : Cx} {c0 : Nat} {v1 : Int} (hc0 : isWay c0) {σ : Sg} {Q : Int → Sg → Prop} (h : Rng σ → GX9_nearest_14 X c0 v1 ((-1)) 1000 0 (up2 σ c0 10 ((-1))) Q) : GX9_nearest_0 X c0 v1 σ Q := by
  unfold GX9_nearest_0
  refine V_rng (fun hR0 => ?_)
  have h := h hR0
  refine V_iconst dX9_nearest_0 ?_
  refine V_istore_n (L' := [(2, .int (gI ((-1)))), (0, .ref (cxA X c0)), (1, .int (gI v1))]) rfl (by decide) rfl dX9_nearest_1 ?_
  refine V_sipush (v := 1000) (by decide) dX9_nearest_2 ?_
  refine V_istore_n (L' := [(3, .int (gI 1000)), (2, .int (gI ((-1)))), (0, .ref (cxA X c0)), (1, .int (gI v1))]) rfl (by decide) rfl dX9_nearest_5 ?_
  refine V_aload_n 2 rfl rfl dX9_nearest_6 ?_
  refine V_iconst dX9_nearest_7 ?_
  refine V_putI (f := 10) ci_X9 hc0.1 rfl (by decide) rfl rfl (by decide) dX9_nearest_8 lk_RX9_f117 ?_
  refine V_iconst dX9_nearest_11 ?_
  refine V_istore (L' := [(4, .int (gI 0)), (3, .int (gI 1000)), (2, .int (gI ((-1)))), (0, .ref (cxA X c0)), (1, .int (gI v1))]) (by decide) rfl dX9_nearest_12 ?_
  exact V_sub [3, 4, 2, 1, 0] rfl h
set_option maxHeartbeats 2000000 in
set_option maxRecDepth 20000 in
theorem rX9_nearest_14 {X : Cx} {c0 : Nat} {v1 : Int} {v2 : Int} {v3 : Int} {v4 : Int} (hc0 : isWay c0) {σ : Sg} {Q : Int → Sg → Prop} (h : Rng σ → (inI v4) ∧ (inI v1) ∧ ((v1 < v4 → GX9_nearest_111 X c0 v1 v2 v3 v4 σ Q) ∧ (v4 ≤ v1 → (inI v4) ∧ ((256 ≤ v4 → GX9_nearest_111 X c0 v1 v2 v3 v4 σ Q) ∧ (v4 < 256 → (0 ≤ v4 ∧ v4 < 256) ∧ (((σ (c0 + 4) v4.toNat) = ((-1)) → (0 ≤ v4 ∧ v4 < 256) ∧ (inI v3) ∧ ((v3 ≤ (σ (c0 + 1) v4.toNat) → GX9_nearest_64 X c0 v1 v2 v3 v4 σ Q) ∧ ((σ (c0 + 1) v4.toNat) < v3 → (0 ≤ v4 ∧ v4 < 256) ∧ GX9_nearest_64 X c0 v1 v4 (σ (c0 + 1) v4.toNat) v4 σ Q))) ∧ (¬ (σ (c0 + 4) v4.toNat) = ((-1)) → GX9_nearest_105 X c0 v1 v2 v3 v4 σ Q))))))) : GX9_nearest_14 X c0 v1 v2 v3 v4 σ Q := by
  unfold GX9_nearest_14
  refine V_rng (fun hR0 => ?_)
  have h := h hR0
  refine V_iload 4 rfl dX9_nearest_14 ?_
  refine V_iload_n 1 rfl rfl dX9_nearest_16 ?_
  obtain ⟨g1, h⟩ := h
  obtain ⟨g2, h⟩ := h
  refine V_icmp_gt (tgt := 111) dX9_nearest_17 (by decide) g1 g2 (fun q3 => ?_) (fun q3 => ?_)
  · have h := h.1 q3
    exact h
  · have h := h.2 q3
    refine V_iload 4 rfl dX9_nearest_20 ?_
    refine V_sipush (v := 256) (by decide) dX9_nearest_22 ?_
    obtain ⟨g4, h⟩ := h
    refine V_icmp_ge (tgt := 111) dX9_nearest_25 (by decide) g4 (by decide) (fun q5 => ?_) (fun q5 => ?_)
    · have h := h.1 q5
      exact h
    · have h := h.2 q5
      refine V_aload_n 0 rfl rfl dX9_nearest_28 ?_
      refine V_getR (f := 3) ci_X9 hc0.1 rfl (by decide) (c1 := (c0 + 4)) rfl dX9_nearest_29 lk_RX9_f21 ?_
      refine V_iload 4 rfl dX9_nearest_32 ?_
      obtain ⟨g6, h⟩ := h
      refine V_iald hc0.2.2.2.2.1 (by decide) g6 dX9_nearest_34 ?_
      refine V_iconst dX9_nearest_35 ?_
      refine V_icmp_eq (tgt := 42) dX9_nearest_36 (by decide) (show inI (σ (c0 + 4) v4.toNat) from (inI_sh hR0 hc0.2.2.2.2.1 (by decide))) (by decide) (fun q7 => ?_) (fun q7 => ?_)
      · have h := h.1 q7
        refine V_aload_n 0 rfl rfl dX9_nearest_42 ?_
        refine V_getR (f := 0) ci_X9 hc0.1 rfl (by decide) (c1 := (c0 + 1)) rfl dX9_nearest_43 lk_RX9_f9 ?_
        refine V_iload 4 rfl dX9_nearest_46 ?_
        obtain ⟨g8, h⟩ := h
        refine V_iald hc0.2.1 (by decide) g8 dX9_nearest_48 ?_
        refine V_iload_n 3 rfl rfl dX9_nearest_49 ?_
        obtain ⟨g9, h⟩ := h
        refine V_icmp_ge (tgt := 64) dX9_nearest_50 (by decide) (show inI (σ (c0 + 1) v4.toNat) from (inI_sh hR0 hc0.2.1 (by decide))) g9 (fun q10 => ?_) (fun q10 => ?_)
        · have h := h.1 q10
          exact h
        · have h := h.2 q10
          refine V_aload_n 0 rfl rfl dX9_nearest_53 ?_
          refine V_getR (f := 0) ci_X9 hc0.1 rfl (by decide) (c1 := (c0 + 1)) rfl dX9_nearest_54 lk_RX9_f9 ?_
          refine V_iload 4 rfl dX9_nearest_57 ?_
          obtain ⟨g11, h⟩ := h
          refine V_iald hc0.2.1 (by decide) g11 dX9_nearest_59 ?_
          refine V_istore_n (L' := [(3, .int (gI (σ (c0 + 1) v4.toNat))), (0, .ref (cxA X c0)), (1, .int (gI v1)), (2, .int (gI v2)), (4, .int (gI v4))]) rfl (by decide) rfl dX9_nearest_60 ?_
          refine V_iload 4 rfl dX9_nearest_61 ?_
          refine V_istore_n (L' := [(2, .int (gI v4)), (3, .int (gI (σ (c0 + 1) v4.toNat))), (0, .ref (cxA X c0)), (1, .int (gI v1)), (4, .int (gI v4))]) rfl (by decide) rfl dX9_nearest_63 ?_
          exact V_sub [2, 3, 0, 1, 4] rfl h
      · have h := h.2 q7
        refine V_goto (tgt := 105) dX9_nearest_39 (by decide) ?_
        exact h
set_option maxHeartbeats 2000000 in
set_option maxRecDepth 20000 in
theorem rX9_nearest_64 {X : Cx} {c0 : Nat} {v1 : Int} {v2 : Int} {v3 : Int} {v4 : Int} (hc0 : isWay c0) {σ : Sg} {Q : Int → Sg → Prop} (h : Rng σ → (0 ≤ v4 ∧ v4 < 256) ∧ (((σ (c0 + 1) v4.toNat) ≤ (σ c0 10) → GX9_nearest_105 X c0 v1 v2 v3 v4 σ Q) ∧ ((σ c0 10) < (σ (c0 + 1) v4.toNat) → (((σ c0 9) = 0 → GX9_nearest_94 X c0 v1 v2 v3 v4 σ Q) ∧ (¬ (σ c0 9) = 0 → KJ6_bitCount_0f7a4 X v4 σ (fun r4 σ5 => Rng σ5 → (inI r4) ∧ ((¬ r4 = 1 → GX9_nearest_105 X c0 v1 v2 v3 v4 σ5 Q) ∧ (r4 = 1 → GX9_nearest_94 X c0 v1 v2 v3 v4 σ5 Q)))))))) : GX9_nearest_64 X c0 v1 v2 v3 v4 σ Q := by
  unfold GX9_nearest_64
  refine V_rng (fun hR0 => ?_)
  have h := h hR0
  refine V_aload_n 0 rfl rfl dX9_nearest_64 ?_
  refine V_getR (f := 0) ci_X9 hc0.1 rfl (by decide) (c1 := (c0 + 1)) rfl dX9_nearest_65 lk_RX9_f9 ?_
  refine V_iload 4 rfl dX9_nearest_68 ?_
  obtain ⟨g1, h⟩ := h
  refine V_iald hc0.2.1 (by decide) g1 dX9_nearest_70 ?_
  refine V_aload_n 0 rfl rfl dX9_nearest_71 ?_
  refine V_getI (f := 10) ci_X9 hc0.1 rfl (by decide) dX9_nearest_72 lk_RX9_f117 ?_
  refine V_icmp_le (tgt := 105) dX9_nearest_75 (by decide) (show inI (σ (c0 + 1) v4.toNat) from (inI_sh hR0 hc0.2.1 (by decide))) (show inI (σ c0 10) from (inI_sh hR0 hc0.1 (by decide))) (fun q2 => ?_) (fun q2 => ?_)
  · have h := h.1 q2
    exact h
  · have h := h.2 q2
    refine V_aload_n 0 rfl rfl dX9_nearest_78 ?_
    refine V_getI (f := 9) ci_X9 hc0.1 rfl (by decide) dX9_nearest_79 lk_RX9_f45 ?_
    refine V_if_eq (tgt := 94) dX9_nearest_82 (by decide) (show inI (σ c0 9) from (inI_sh hR0 hc0.1 (by decide))) (fun q3 => ?_) (fun q3 => ?_)
    · have h := h.1 q3
      exact h
    · have h := h.2 q3
      refine V_iload 4 rfl dX9_nearest_85 ?_
      refine V_cS (M' := mJ6_bitCount_0f7a4) (As := [.int (gI v4)]) (fun r => [.int (gI r)]) ok_J6_bitCount_0f7a4 ok2_J6_bitCount_0f7a4 rfl rfl (Nat.le_of_ble_eq_true rfl) dX9_nearest_87 lk_RX9_m120 (by decide) (fun _ => rfl) h (fun r4 σ5 h => ?_)
      refine V_rng (fun hR6 => ?_)
      have h := h hR6
      refine V_iconst dX9_nearest_90 ?_
      obtain ⟨g7, h⟩ := h
      refine V_icmp_ne (tgt := 105) dX9_nearest_91 (by decide) g7 (by decide) (fun q8 => ?_) (fun q8 => ?_)
      · have h := h.1 q8
        exact h
      · have h := h.2 q8
        exact h
set_option maxHeartbeats 2000000 in
set_option maxRecDepth 20000 in
theorem rX9_nearest_94 {X : Cx} {c0 : Nat} {v1 : Int} {v2 : Int} {v3 : Int} {v4 : Int} (hc0 : isWay c0) {σ : Sg} {Q : Int → Sg → Prop} (h : Rng σ → (0 ≤ v4 ∧ v4 < 256) ∧ GX9_nearest_105 X c0 v1 v2 v3 v4 (up2 σ c0 10 (σ (c0 + 1) v4.toNat)) Q) : GX9_nearest_94 X c0 v1 v2 v3 v4 σ Q := by
  unfold GX9_nearest_94
  refine V_rng (fun hR0 => ?_)
  have h := h hR0
  refine V_aload_n 0 rfl rfl dX9_nearest_94 ?_
  refine V_aload_n 0 rfl rfl dX9_nearest_95 ?_
  refine V_getR (f := 0) ci_X9 hc0.1 rfl (by decide) (c1 := (c0 + 1)) rfl dX9_nearest_96 lk_RX9_f9 ?_
  refine V_iload 4 rfl dX9_nearest_99 ?_
  obtain ⟨g1, h⟩ := h
  refine V_iald hc0.2.1 (by decide) g1 dX9_nearest_101 ?_
  refine V_putI (f := 10) ci_X9 hc0.1 rfl (by decide) rfl rfl (show inI (σ (c0 + 1) v4.toNat) from (inI_sh hR0 hc0.2.1 (by decide))) dX9_nearest_102 lk_RX9_f117 ?_
  exact h
set_option maxHeartbeats 2000000 in
set_option maxRecDepth 20000 in
theorem rX9_nearest_105 {X : Cx} {c0 : Nat} {v1 : Int} {v2 : Int} {v3 : Int} {v4 : Int} (hc0 : isWay c0) {σ : Sg} {Q : Int → Sg → Prop} (h : Rng σ → GX9_nearest_14 X c0 v1 v2 v3 (v4 + 1) σ Q) : GX9_nearest_105 X c0 v1 v2 v3 v4 σ Q := by
  unfold GX9_nearest_105
  refine V_rng (fun hR0 => ?_)
  have h := h hR0
  refine V_iinc (L' := [(4, .int (gI (v4 + 1))), (0, .ref (cxA X c0)), (1, .int (gI v1)), (2, .int (gI v2)), (3, .int (gI v3))]) 4 rfl (by decide) rfl dX9_nearest_105 ?_
  refine V_goto (tgt := 14) dX9_nearest_108 (by decide) ?_
  exact V_sub [1, 2, 3, 4, 0] rfl h
set_option maxHeartbeats 2000000 in
set_option maxRecDepth 20000 in
theorem rX9_nearest_111 {X : Cx} {c0 : Nat} {v1 : Int} {v2 : Int} {v3 : Int} {v4 : Int} (hc0 : isWay c0) {σ : Sg} {Q : Int → Sg → Prop} (h : Rng σ → ((¬ (σ c0 10) = ((-1)) → Q v2 σ) ∧ ((σ c0 10) = ((-1)) → Q ((-1)) σ))) : GX9_nearest_111 X c0 v1 v2 v3 v4 σ Q := by
  unfold GX9_nearest_111
  refine V_rng (fun hR0 => ?_)
  have h := h hR0
  refine V_aload_n 0 rfl rfl dX9_nearest_111 ?_
  refine V_getI (f := 10) ci_X9 hc0.1 rfl (by decide) dX9_nearest_112 lk_RX9_f117 ?_
  refine V_iconst dX9_nearest_115 ?_
  refine V_icmp_ne (tgt := 123) dX9_nearest_116 (by decide) (show inI (σ c0 10) from (inI_sh hR0 hc0.1 (by decide))) (by decide) (fun q1 => ?_) (fun q1 => ?_)
  · have h := h.1 q1
    refine V_iload_n 2 rfl rfl dX9_nearest_123 ?_
    exact V_iret rfl (fun _ q => by cases q) (vp_nar_int _) dX9_nearest_124 h
  · have h := h.2 q1
    refine V_iconst dX9_nearest_119 ?_
    refine V_goto (tgt := 124) dX9_nearest_120 (by decide) ?_
    exact V_iret rfl (fun _ q => by cases q) (vp_nar_int _) dX9_nearest_124 h
theorem eX9_nearest {X : Cx} {c0 : Nat} {v1 : Int} {σ : Sg} {Q : Int → Sg → Prop} (h : GX9_nearest_0 X c0 v1 σ Q) : KX9_nearest X c0 v1 σ Q := V_enter (by decide) (Nat.le_of_ble_eq_true rfl) rfl h
def GX9_reach_0 (X : Cx) (c0 : Nat) (v1 : Int) (σ : Sg) (Q : Int → Sg → Prop) : Prop := VV X mX9_reach 0 [(0, .ref (cxA X c0)), (1, .int (gI v1))] [] σ Q
def GX9_reach_63 (X : Cx) (c0 : Nat) (v1 : Int) (v2 : Int) (v3 : Int) (s0 : Int) (s1 : Int) (s2 : Int) (σ : Sg) (Q : Int → Sg → Prop) : Prop := VV X mX9_reach 63 [(0, .ref (cxA X c0)), (1, .int (gI v1)), (2, .int (gI v2)), (3, .int (gI v3))] [.int (gI s0), .int (gI s1), .int (gI s2), .ref (cxA X (c0 + 2))] σ Q
def GX9_reach_83 (X : Cx) (c0 : Nat) (v1 : Int) (v2 : Int) (v3 : Int) (s0 : Int) (s1 : Int) (s2 : Int) (σ : Sg) (Q : Int → Sg → Prop) : Prop := VV X mX9_reach 83 [(0, .ref (cxA X c0)), (1, .int (gI v1)), (2, .int (gI v2)), (3, .int (gI v3))] [.int (gI s0), .int (gI s1), .int (gI s2), .ref (cxA X (c0 + 2))] σ Q
def GX9_reach_91 (X : Cx) (c0 : Nat) (v1 : Int) (v2 : Int) (v3 : Int) (v4 : Int) (σ : Sg) (Q : Int → Sg → Prop) : Prop := VV X mX9_reach 91 [(0, .ref (cxA X c0)), (1, .int (gI v1)), (2, .int (gI v2)), (3, .int (gI v3)), (4, .int (gI v4))] [] σ Q
def GX9_reach_162 (X : Cx) (c0 : Nat) (v1 : Int) (v2 : Int) (v3 : Int) (v4 : Int) (σ : Sg) (Q : Int → Sg → Prop) : Prop := VV X mX9_reach 162 [(0, .ref (cxA X c0)), (1, .int (gI v1)), (2, .int (gI v2)), (3, .int (gI v3)), (4, .int (gI v4))] [] σ Q
set_option maxHeartbeats 2000000 in
set_option maxRecDepth 20000 in
theorem rX9_reach_0 {X : Cx} {c0 : Nat} {v1 : Int} (hc0 : isWay c0) {σ : Sg} {Q : Int → Sg → Prop} (h : Rng σ → ((256 ≤ (σ c0 6) → Q 0 σ) ∧ ((σ c0 6) < 256 → KX11_isWithin X v1 256 σ (fun r2 σ3 => Rng σ3 → (inI r2) ∧ ((¬ r2 = 0 → (0 ≤ v1 ∧ v1 < 256) ∧ KX10_parts X (zshr (σ3 (c0 + 3) v1.toNat) 19) σ3 (fun r8 σ9 => Rng σ9 → (inI r8) ∧ ((r8 ≤ 0 → GX9_reach_63 X c0 v1 (σ3 (c0 + 3) v1.toNat) r8 0 1 v1 σ9 Q) ∧ (0 < r8 → (0 ≤ zand (zshr (σ3 (c0 + 3) v1.toNat) 8) 255 ∧ zand (zshr (σ3 (c0 + 3) v1.toNat) 8) 255 < 256) ∧ GX9_reach_63 X c0 v1 (σ3 (c0 + 3) v1.toNat) r8 (σ9 (c0 + 2) ((zand (zshr (σ3 (c0 + 3) v1.toNat) 8) 255).toNat)) 1 v1 σ9 Q)))) ∧ (r2 = 0 → Q 0 σ3)))))) : GX9_reach_0 X c0 v1 σ Q := by
  unfold GX9_reach_0
  refine V_rng (fun hR0 => ?_)
  have h := h hR0
  refine V_aload_n 0 rfl rfl dX9_reach_0 ?_
  refine V_getI (f := 6) ci_X9 hc0.1 rfl (by decide) dX9_reach_1 lk_RX9_f75 ?_
  refine V_sipush (v := 256) (by decide) dX9_reach_4 ?_
  refine V_icmp_ge (tgt := 20) dX9_reach_7 (by decide) (show inI (σ c0 6) from (inI_sh hR0 hc0.1 (by decide))) (by decide) (fun q1 => ?_) (fun q1 => ?_)
  · have h := h.1 q1
    exact V_vret rfl dX9_reach_20 h
  · have h := h.2 q1
    refine V_iload_n 1 rfl rfl dX9_reach_10 ?_
    refine V_sipush (v := 256) (by decide) dX9_reach_11 ?_
    refine V_cN (M' := mX11_isWithin) (As := [.int (gI v1), .int (gI 256)]) (fun r => [.int (gI r)]) ok_X11_isWithin ok2_X11_isWithin rfl rfl (Nat.le_of_ble_eq_true rfl) dX9_reach_14 lk_RX9_m34 (by decide) (fun _ => rfl) h (fun r2 σ3 h => ?_)
    refine V_rng (fun hR4 => ?_)
    have h := h hR4
    obtain ⟨g5, h⟩ := h
    refine V_if_ne (tgt := 21) dX9_reach_17 (by decide) g5 (fun q6 => ?_) (fun q6 => ?_)
    · have h := h.1 q6
      refine V_aload_n 0 rfl rfl dX9_reach_21 ?_
      refine V_getR (f := 2) ci_X9 hc0.1 rfl (by decide) (c1 := (c0 + 3)) rfl dX9_reach_22 lk_RX9_f18 ?_
      refine V_iload_n 1 rfl rfl dX9_reach_25 ?_
      obtain ⟨g7, h⟩ := h
      refine V_iald hc0.2.2.2.1 (by decide) g7 dX9_reach_26 ?_
      refine V_istore_n (L' := [(2, .int (gI (σ3 (c0 + 3) v1.toNat))), (0, .ref (cxA X c0)), (1, .int (gI v1))]) rfl (by decide) rfl dX9_reach_27 ?_
      refine V_iload_n 0 rfl rfl dX9_reach_28 ?_
      refine V_bipush (v := 19) (by decide) dX9_reach_29 ?_
      refine V_ishr dX9_reach_31 ?_
      refine V_cS (M' := mX10_parts) (As := [.int (gI (zshr (σ3 (c0 + 3) v1.toNat) 19))]) (fun r => [.int (gI r)]) ok_X10_parts ok2_X10_parts rfl rfl (Nat.le_of_ble_eq_true rfl) dX9_reach_32 lk_RX9_m91 (by decide) (fun _ => rfl) h (fun r8 σ9 h => ?_)
      refine V_rng (fun hR10 => ?_)
      have h := h hR10
      refine V_istore_n (L' := [(3, .int (gI r8)), (2, .int (gI (σ3 (c0 + 3) v1.toNat))), (0, .ref (cxA X c0)), (1, .int (gI v1))]) rfl (by decide) rfl dX9_reach_35 ?_
      refine V_aload_n 2 rfl rfl dX9_reach_36 ?_
      refine V_getR (f := 1) ci_X9 hc0.1 rfl (by decide) (c1 := (c0 + 2)) rfl dX9_reach_37 lk_RX9_f15 ?_
      refine V_iload_n 3 rfl rfl dX9_reach_40 ?_
      refine V_iconst dX9_reach_41 ?_
      refine V_iload_n 0 rfl rfl dX9_reach_42 ?_
      obtain ⟨g11, h⟩ := h
      refine V_if_le (tgt := 62) dX9_reach_43 (by decide) g11 (fun q12 => ?_) (fun q12 => ?_)
      · have h := h.1 q12
        refine V_iconst dX9_reach_62 ?_
        exact V_sub [2, 3, 1, 0] rfl h
      · have h := h.2 q12
        refine V_aload_n 2 rfl rfl dX9_reach_46 ?_
        refine V_getR (f := 1) ci_X9 hc0.1 rfl (by decide) (c1 := (c0 + 2)) rfl dX9_reach_47 lk_RX9_f15 ?_
        refine V_iload_n 1 rfl rfl dX9_reach_50 ?_
        refine V_bipush (v := 8) (by decide) dX9_reach_51 ?_
        refine V_ishr dX9_reach_53 ?_
        refine V_sipush (v := 255) (by decide) dX9_reach_54 ?_
        refine V_iand dX9_reach_57 ?_
        obtain ⟨g13, h⟩ := h
        refine V_iald hc0.2.2.1 (by decide) g13 dX9_reach_58 ?_
        refine V_goto (tgt := 63) dX9_reach_59 (by decide) ?_
        exact V_sub [2, 3, 1, 0] rfl h
    · have h := h.2 q6
      exact V_vret rfl dX9_reach_20 h
set_option maxHeartbeats 2000000 in
set_option maxRecDepth 20000 in
theorem rX9_reach_63 {X : Cx} {c0 : Nat} {v1 : Int} {v2 : Int} {v3 : Int} {s0 : Int} {s1 : Int} {s2 : Int} (hc0 : isWay c0) {σ : Sg} {Q : Int → Sg → Prop} (h : Rng σ → (inI v3) ∧ ((v3 ≤ 1 → GX9_reach_83 X c0 v1 v2 v3 0 (s1 + s0) s2 σ Q) ∧ (1 < v3 → (0 ≤ zand v2 255 ∧ zand v2 255 < 256) ∧ GX9_reach_83 X c0 v1 v2 v3 (σ (c0 + 2) ((zand v2 255).toNat)) (s1 + s0) s2 σ Q))) : GX9_reach_63 X c0 v1 v2 v3 s0 s1 s2 σ Q := by
  unfold GX9_reach_63
  refine V_rng (fun hR0 => ?_)
  have h := h hR0
  refine V_iadd dX9_reach_63 ?_
  refine V_iload_n 3 rfl rfl dX9_reach_64 ?_
  refine V_iconst dX9_reach_65 ?_
  obtain ⟨g1, h⟩ := h
  refine V_icmp_le (tgt := 82) dX9_reach_66 (by decide) g1 (by decide) (fun q2 => ?_) (fun q2 => ?_)
  · have h := h.1 q2
    refine V_iconst dX9_reach_82 ?_
    exact h
  · have h := h.2 q2
    refine V_aload_n 0 rfl rfl dX9_reach_69 ?_
    refine V_getR (f := 1) ci_X9 hc0.1 rfl (by decide) (c1 := (c0 + 2)) rfl dX9_reach_70 lk_RX9_f15 ?_
    refine V_iload_n 2 rfl rfl dX9_reach_73 ?_
    refine V_sipush (v := 255) (by decide) dX9_reach_74 ?_
    refine V_iand dX9_reach_77 ?_
    obtain ⟨g3, h⟩ := h
    refine V_iald hc0.2.2.1 (by decide) g3 dX9_reach_78 ?_
    refine V_goto (tgt := 83) dX9_reach_79 (by decide) ?_
    exact h
set_option maxHeartbeats 2000000 in
set_option maxRecDepth 20000 in
theorem rX9_reach_83 {X : Cx} {c0 : Nat} {v1 : Int} {v2 : Int} {v3 : Int} {s0 : Int} {s1 : Int} {s2 : Int} (hc0 : isWay c0) {σ : Sg} {Q : Int → Sg → Prop} (h : Rng σ → (0 ≤ s2 ∧ s2 < 256) ∧ (inI (s1 + s0)) ∧ GX9_reach_91 X c0 v1 v2 v3 ((up2 σ (c0 + 2) s2.toNat (s1 + s0)) c0 6) (up2 σ (c0 + 2) s2.toNat (s1 + s0)) Q) : GX9_reach_83 X c0 v1 v2 v3 s0 s1 s2 σ Q := by
  unfold GX9_reach_83
  refine V_rng (fun hR0 => ?_)
  have h := h hR0
  refine V_iadd dX9_reach_83 ?_
  obtain ⟨g1, h⟩ := h
  obtain ⟨g2, h⟩ := h
  refine V_iast hc0.2.2.1 (by decide) g1 g2 dX9_reach_84 ?_
  refine V_aload_n 0 rfl rfl dX9_reach_85 ?_
  refine V_getI (f := 6) ci_X9 hc0.1 rfl (by decide) dX9_reach_86 lk_RX9_f75 ?_
  refine V_istore (L' := [(4, .int (gI ((up2 σ (c0 + 2) s2.toNat (s1 + s0)) c0 6))), (0, .ref (cxA X c0)), (1, .int (gI v1)), (2, .int (gI v2)), (3, .int (gI v3))]) (by decide) rfl dX9_reach_89 ?_
  exact V_sub [1, 2, 3, 4, 0] rfl h
set_option maxHeartbeats 2000000 in
set_option maxRecDepth 20000 in
theorem rX9_reach_91 {X : Cx} {c0 : Nat} {v1 : Int} {v2 : Int} {v3 : Int} {v4 : Int} (hc0 : isWay c0) {σ : Sg} {Q : Int → Sg → Prop} (h : Rng σ → (inI v4) ∧ ((v4 ≤ 0 → GX9_reach_162 X c0 v1 v2 v3 v4 σ Q) ∧ (0 < v4 → (0 ≤ v4 - 1 ∧ v4 - 1 < 256) ∧ (0 ≤ zand (σ (c0 + 5) ((v4 - 1).toNat)) 255 ∧ zand (σ (c0 + 5) ((v4 - 1).toNat)) 255 < 256) ∧ KX9_isAhead X c0 v2 (σ (c0 + 3) ((zand (σ (c0 + 5) ((v4 - 1).toNat)) 255).toNat)) σ (fun r5 σ6 => Rng σ6 → (inI r5) ∧ ((r5 = 0 → GX9_reach_162 X c0 v1 v2 v3 v4 σ6 Q) ∧ (¬ r5 = 0 → (0 ≤ v4 - 1 ∧ v4 - 1 < 256) ∧ (0 ≤ v4 ∧ v4 < 256) ∧ (0 ≤ v4 ∧ v4 < 256) ∧ (0 ≤ zand ((up2 σ6 (c0 + 5) v4.toNat (σ6 (c0 + 5) ((v4 - 1).toNat))) (c0 + 5) v4.toNat) 255 ∧ zand ((up2 σ6 (c0 + 5) v4.toNat (σ6 (c0 + 5) ((v4 - 1).toNat))) (c0 + 5) v4.toNat) 255 < 256) ∧ (inI v4) ∧ GX9_reach_91 X c0 v1 v2 v3 (v4 + (-1)) (up2 (up2 σ6 (c0 + 5) v4.toNat (σ6 (c0 + 5) ((v4 - 1).toNat))) (c0 + 4) ((zand ((up2 σ6 (c0 + 5) v4.toNat (σ6 (c0 + 5) ((v4 - 1).toNat))) (c0 + 5) v4.toNat) 255).toNat) v4) Q)))))) : GX9_reach_91 X c0 v1 v2 v3 v4 σ Q := by
  unfold GX9_reach_91
  refine V_rng (fun hR0 => ?_)
  have h := h hR0
  refine V_iload 4 rfl dX9_reach_91 ?_
  obtain ⟨g1, h⟩ := h
  refine V_if_le (tgt := 162) dX9_reach_93 (by decide) g1 (fun q2 => ?_) (fun q2 => ?_)
  · have h := h.1 q2
    exact h
  · have h := h.2 q2
    refine V_aload_n 0 rfl rfl dX9_reach_96 ?_
    refine V_iload_n 2 rfl rfl dX9_reach_97 ?_
    refine V_aload_n 0 rfl rfl dX9_reach_98 ?_
    refine V_getR (f := 2) ci_X9 hc0.1 rfl (by decide) (c1 := (c0 + 3)) rfl dX9_reach_99 lk_RX9_f18 ?_
    refine V_aload_n 0 rfl rfl dX9_reach_102 ?_
    refine V_getR (f := 4) ci_X9 hc0.1 rfl (by decide) (c1 := (c0 + 5)) rfl dX9_reach_103 lk_RX9_f24 ?_
    refine V_iload 4 rfl dX9_reach_106 ?_
    refine V_iconst dX9_reach_108 ?_
    refine V_isub dX9_reach_109 ?_
    obtain ⟨g3, h⟩ := h
    refine V_iald hc0.2.2.2.2.2.1 (by decide) g3 dX9_reach_110 ?_
    refine V_sipush (v := 255) (by decide) dX9_reach_111 ?_
    refine V_iand dX9_reach_114 ?_
    obtain ⟨g4, h⟩ := h
    refine V_iald hc0.2.2.2.1 (by decide) g4 dX9_reach_115 ?_
    refine V_cV (M' := mX9_isAhead) (As := [.int (gI v2), .int (gI (σ (c0 + 3) ((zand (σ (c0 + 5) ((v4 - 1).toNat)) 255).toNat)))]) (fun r => [.int (gI r)]) ok_X9_isAhead ok2_X9_isAhead hc0.1 rfl (by decide) rfl rfl (Nat.le_of_ble_eq_true rfl) dX9_reach_116 lk_RX9_m125 (by decide) (fun _ => rfl) h (fun r5 σ6 h => ?_)
    refine V_rng (fun hR7 => ?_)
    have h := h hR7
    obtain ⟨g8, h⟩ := h
    refine V_if_eq (tgt := 162) dX9_reach_119 (by decide) g8 (fun q9 => ?_) (fun q9 => ?_)
    · have h := h.1 q9
      exact h
    · have h := h.2 q9
      refine V_aload_n 0 rfl rfl dX9_reach_122 ?_
      refine V_getR (f := 4) ci_X9 hc0.1 rfl (by decide) (c1 := (c0 + 5)) rfl dX9_reach_123 lk_RX9_f24 ?_
      refine V_iload 4 rfl dX9_reach_126 ?_
      refine V_aload_n 0 rfl rfl dX9_reach_128 ?_
      refine V_getR (f := 4) ci_X9 hc0.1 rfl (by decide) (c1 := (c0 + 5)) rfl dX9_reach_129 lk_RX9_f24 ?_
      refine V_iload 4 rfl dX9_reach_132 ?_
      refine V_iconst dX9_reach_134 ?_
      refine V_isub dX9_reach_135 ?_
      obtain ⟨g10, h⟩ := h
      refine V_iald hc0.2.2.2.2.2.1 (by decide) g10 dX9_reach_136 ?_
      obtain ⟨g11, h⟩ := h
      refine V_iast hc0.2.2.2.2.2.1 (by decide) g11 (show inI (σ6 (c0 + 5) ((v4 - 1).toNat)) from (inI_sh hR7 hc0.2.2.2.2.2.1 (by decide))) dX9_reach_137 ?_
      refine V_aload_n 0 rfl rfl dX9_reach_138 ?_
      refine V_getR (f := 3) ci_X9 hc0.1 rfl (by decide) (c1 := (c0 + 4)) rfl dX9_reach_139 lk_RX9_f21 ?_
      refine V_aload_n 0 rfl rfl dX9_reach_142 ?_
      refine V_getR (f := 4) ci_X9 hc0.1 rfl (by decide) (c1 := (c0 + 5)) rfl dX9_reach_143 lk_RX9_f24 ?_
      refine V_iload 4 rfl dX9_reach_146 ?_
      obtain ⟨g12, h⟩ := h
      refine V_iald hc0.2.2.2.2.2.1 (by decide) g12 dX9_reach_148 ?_
      refine V_sipush (v := 255) (by decide) dX9_reach_149 ?_
      refine V_iand dX9_reach_152 ?_
      refine V_iload 4 rfl dX9_reach_153 ?_
      obtain ⟨g13, h⟩ := h
      obtain ⟨g14, h⟩ := h
      refine V_iast hc0.2.2.2.2.1 (by decide) g13 g14 dX9_reach_155 ?_
      refine V_iinc (L' := [(4, .int (gI (v4 + (-1)))), (0, .ref (cxA X c0)), (1, .int (gI v1)), (2, .int (gI v2)), (3, .int (gI v3))]) 4 rfl (by decide) rfl dX9_reach_156 ?_
      refine V_goto (tgt := 91) dX9_reach_159 (by decide) ?_
      exact V_sub [1, 2, 3, 4, 0] rfl h
set_option maxHeartbeats 2000000 in
set_option maxRecDepth 20000 in
theorem rX9_reach_162 {X : Cx} {c0 : Nat} {v1 : Int} {v2 : Int} {v3 : Int} {v4 : Int} (hc0 : isWay c0) {σ : Sg} {Q : Int → Sg → Prop} (h : Rng σ → (0 ≤ v4 ∧ v4 < 256) ∧ (inI v1) ∧ (0 ≤ v1 ∧ v1 < 256) ∧ (inI v4) ∧ (inI (((up2 (up2 σ (c0 + 5) v4.toNat v1) (c0 + 4) v1.toNat v4) c0 6) + 1)) ∧ (0 ≤ (up2 (up2 σ (c0 + 5) v4.toNat v1) (c0 + 4) v1.toNat v4) c0 6 ∧ (up2 (up2 σ (c0 + 5) v4.toNat v1) (c0 + 4) v1.toNat v4) c0 6 < 256) ∧ (inI v1) ∧ Q 0 (up2 (up2 (up2 (up2 σ (c0 + 5) v4.toNat v1) (c0 + 4) v1.toNat v4) c0 6 (((up2 (up2 σ (c0 + 5) v4.toNat v1) (c0 + 4) v1.toNat v4) c0 6) + 1)) (c0 + 6) (((up2 (up2 σ (c0 + 5) v4.toNat v1) (c0 + 4) v1.toNat v4) c0 6).toNat) v1)) : GX9_reach_162 X c0 v1 v2 v3 v4 σ Q := by
  unfold GX9_reach_162
  refine V_rng (fun hR0 => ?_)
  have h := h hR0
  refine V_aload_n 0 rfl rfl dX9_reach_162 ?_
  refine V_getR (f := 4) ci_X9 hc0.1 rfl (by decide) (c1 := (c0 + 5)) rfl dX9_reach_163 lk_RX9_f24 ?_
  refine V_iload 4 rfl dX9_reach_166 ?_
  refine V_iload_n 1 rfl rfl dX9_reach_168 ?_
  obtain ⟨g1, h⟩ := h
  obtain ⟨g2, h⟩ := h
  refine V_iast hc0.2.2.2.2.2.1 (by decide) g1 g2 dX9_reach_169 ?_
  refine V_aload_n 0 rfl rfl dX9_reach_170 ?_
  refine V_getR (f := 3) ci_X9 hc0.1 rfl (by decide) (c1 := (c0 + 4)) rfl dX9_reach_171 lk_RX9_f21 ?_
  refine V_iload_n 1 rfl rfl dX9_reach_174 ?_
  refine V_iload 4 rfl dX9_reach_175 ?_
  obtain ⟨g3, h⟩ := h
  obtain ⟨g4, h⟩ := h
  refine V_iast hc0.2.2.2.2.1 (by decide) g3 g4 dX9_reach_177 ?_
  refine V_aload_n 0 rfl rfl dX9_reach_178 ?_
  refine V_getR (f := 5) ci_X9 hc0.1 rfl (by decide) (c1 := (c0 + 6)) rfl dX9_reach_179 lk_RX9_f27 ?_
  refine V_aload_n 0 rfl rfl dX9_reach_182 ?_
  refine V_dup rfl dX9_reach_183 ?_
  refine V_getI (f := 6) ci_X9 hc0.1 rfl (by decide) dX9_reach_184 lk_RX9_f75 ?_
  refine V_dup_x1 rfl rfl dX9_reach_187 ?_
  refine V_iconst dX9_reach_188 ?_
  refine V_iadd dX9_reach_189 ?_
  obtain ⟨g5, h⟩ := h
  refine V_putI (f := 6) ci_X9 hc0.1 rfl (by decide) rfl rfl g5 dX9_reach_190 lk_RX9_f75 ?_
  refine V_iload_n 1 rfl rfl dX9_reach_193 ?_
  obtain ⟨g6, h⟩ := h
  obtain ⟨g7, h⟩ := h
  refine V_iast hc0.2.2.2.2.2.2 (by decide) g6 g7 dX9_reach_194 ?_
  exact V_vret rfl dX9_reach_195 h
theorem eX9_reach {X : Cx} {c0 : Nat} {v1 : Int} {σ : Sg} {Q : Int → Sg → Prop} (h : GX9_reach_0 X c0 v1 σ Q) : KX9_reach X c0 v1 σ Q := V_enter (by decide) (Nat.le_of_ble_eq_true rfl) rfl h
def GX9_turn_0 (X : Cx) (c0 : Nat) (v3 : Int) (σ : Sg) (Q : Int → Sg → Prop) : Prop := VV X mX9_turn 0 [(0, .ref (cxA X c0)), (1, .ref (cxA X 1)), (2, .ref (cxA X 11)), (3, .int (gI v3))] [] σ Q
def GX9_turn_3 (X : Cx) (c0 : Nat) (v3 : Int) (v4 : Int) (σ : Sg) (Q : Int → Sg → Prop) : Prop := VV X mX9_turn 3 [(0, .ref (cxA X c0)), (1, .ref (cxA X 1)), (2, .ref (cxA X 11)), (3, .int (gI v3)), (4, .int (gI v4))] [] σ Q
def GX9_turn_83 (X : Cx) (c0 : Nat) (v3 : Int) (v4 : Int) (σ : Sg) (Q : Int → Sg → Prop) : Prop := VV X mX9_turn 83 [(0, .ref (cxA X c0)), (1, .ref (cxA X 1)), (2, .ref (cxA X 11)), (3, .int (gI v3)), (4, .int (gI v4))] [] σ Q
set_option maxHeartbeats 2000000 in
set_option maxRecDepth 20000 in
theorem rX9_turn_0 {X : Cx} {c0 : Nat} {v3 : Int} (hc0 : isWay c0) {σ : Sg} {Q : Int → Sg → Prop} (h : Rng σ → GX9_turn_3 X c0 v3 4 σ Q) : GX9_turn_0 X c0 v3 σ Q := by
  unfold GX9_turn_0
  refine V_rng (fun hR0 => ?_)
  have h := h hR0
  refine V_iconst dX9_turn_0 ?_
  refine V_istore (L' := [(4, .int (gI 4)), (0, .ref (cxA X c0)), (1, .ref (cxA X 1)), (2, .ref (cxA X 11)), (3, .int (gI v3))]) (by decide) rfl dX9_turn_1 ?_
  exact V_sub [1, 2, 3, 4, 0] rfl h
set_option maxHeartbeats 2000000 in
set_option maxRecDepth 20000 in
theorem rX9_turn_3 {X : Cx} {c0 : Nat} {v3 : Int} {v4 : Int} (hc0 : isWay c0) {σ : Sg} {Q : Int → Sg → Prop} (h : Rng σ → (inI v4) ∧ ((15 ≤ v4 → Q 0 σ) ∧ (v4 < 15 → (inI v4) ∧ ((15 ≤ v4 → Q 0 σ) ∧ (v4 < 15 → KX10_parts X v4 σ (fun r5 σ6 => Rng σ6 → (inI r5) ∧ ((¬ r5 = 1 → GX9_turn_83 X c0 v3 v4 σ6 Q) ∧ (r5 = 1 → KX10_isKnown X (σ6 c0 7) v4 σ6 (fun r10 σ11 => Rng σ11 → (inI r10) ∧ ((r10 = 0 → GX9_turn_83 X c0 v3 v4 σ11 Q) ∧ (¬ r10 = 0 → (0 ≤ v3 ∧ v3 < 256) ∧ (0 ≤ v4 ∧ v4 < 15) ∧ (inI ((σ11 (c0 + 1) v3.toNat) + (σ11 11 v4.toNat))) ∧ (((σ11 c0 10) < ((σ11 (c0 + 1) v3.toNat) + (σ11 11 v4.toNat)) → GX9_turn_83 X c0 v3 v4 σ11 Q) ∧ (((σ11 (c0 + 1) v3.toNat) + (σ11 11 v4.toNat)) ≤ (σ11 c0 10) → KX5_turned X v4 v3 σ11 (fun r19 σ20 => Rng σ20 → KX9_offer X c0 r19 ((σ11 (c0 + 1) v3.toNat) + (σ11 11 v4.toNat)) (zor (zshl v4 19) (zshl v3 8)) σ20 (fun r22 σ23 => Rng σ23 → GX9_turn_83 X c0 v3 v4 σ23 Q))))))))))))))) : GX9_turn_3 X c0 v3 v4 σ Q := by
  unfold GX9_turn_3
  refine V_rng (fun hR0 => ?_)
  have h := h hR0
  refine V_iload 4 rfl dX9_turn_3 ?_
  refine V_bipush (v := 15) (by decide) dX9_turn_5 ?_
  obtain ⟨g1, h⟩ := h
  refine V_icmp_ge (tgt := 89) dX9_turn_7 (by decide) g1 (by decide) (fun q2 => ?_) (fun q2 => ?_)
  · have h := h.1 q2
    exact V_vret rfl dX9_turn_89 h
  · have h := h.2 q2
    refine V_iload 4 rfl dX9_turn_10 ?_
    refine V_aload_n 2 rfl rfl dX9_turn_12 ?_
    refine V_alen sh_11 (by decide) (by decide) dX9_turn_13 ?_
    obtain ⟨g3, h⟩ := h
    refine V_icmp_ge (tgt := 89) dX9_turn_14 (by decide) g3 (by decide) (fun q4 => ?_) (fun q4 => ?_)
    · have h := h.1 q4
      exact V_vret rfl dX9_turn_89 h
    · have h := h.2 q4
      refine V_iload 4 rfl dX9_turn_17 ?_
      refine V_cS (M' := mX10_parts) (As := [.int (gI v4)]) (fun r => [.int (gI r)]) ok_X10_parts ok2_X10_parts rfl rfl (Nat.le_of_ble_eq_true rfl) dX9_turn_19 lk_RX9_m91 (by decide) (fun _ => rfl) h (fun r5 σ6 h => ?_)
      refine V_rng (fun hR7 => ?_)
      have h := h hR7
      refine V_iconst dX9_turn_22 ?_
      obtain ⟨g8, h⟩ := h
      refine V_icmp_ne (tgt := 83) dX9_turn_23 (by decide) g8 (by decide) (fun q9 => ?_) (fun q9 => ?_)
      · have h := h.1 q9
        exact h
      · have h := h.2 q9
        refine V_aload_n 0 rfl rfl dX9_turn_26 ?_
        refine V_getI (f := 7) ci_X9 hc0.1 rfl (by decide) dX9_turn_27 lk_RX9_f42 ?_
        refine V_iload 4 rfl dX9_turn_30 ?_
        refine V_cS (M' := mX10_isKnown) (As := [.int (gI (σ6 c0 7)), .int (gI v4)]) (fun r => [.int (gI r)]) ok_X10_isKnown ok2_X10_isKnown rfl rfl (Nat.le_of_ble_eq_true rfl) dX9_turn_32 lk_RX9_m88 (by decide) (fun _ => rfl) h (fun r10 σ11 h => ?_)
        refine V_rng (fun hR12 => ?_)
        have h := h hR12
        obtain ⟨g13, h⟩ := h
        refine V_if_eq (tgt := 83) dX9_turn_35 (by decide) g13 (fun q14 => ?_) (fun q14 => ?_)
        · have h := h.1 q14
          exact h
        · have h := h.2 q14
          refine V_aload_n 0 rfl rfl dX9_turn_38 ?_
          refine V_getR (f := 0) ci_X9 hc0.1 rfl (by decide) (c1 := (c0 + 1)) rfl dX9_turn_39 lk_RX9_f9 ?_
          refine V_iload_n 3 rfl rfl dX9_turn_42 ?_
          obtain ⟨g15, h⟩ := h
          refine V_iald hc0.2.1 (by decide) g15 dX9_turn_43 ?_
          refine V_aload_n 2 rfl rfl dX9_turn_44 ?_
          refine V_iload 4 rfl dX9_turn_45 ?_
          obtain ⟨g16, h⟩ := h
          refine V_iald sh_11 (by decide) g16 dX9_turn_47 ?_
          refine V_iadd dX9_turn_48 ?_
          refine V_istore (L' := [(5, .int (gI ((σ11 (c0 + 1) v3.toNat) + (σ11 11 v4.toNat)))), (0, .ref (cxA X c0)), (1, .ref (cxA X 1)), (2, .ref (cxA X 11)), (3, .int (gI v3)), (4, .int (gI v4))]) (by decide) rfl dX9_turn_49 ?_
          refine V_iload 0 rfl dX9_turn_51 ?_
          refine V_aload_n 1 rfl rfl dX9_turn_53 ?_
          refine V_getI (f := 10) ci_X9 hc0.1 rfl (by decide) dX9_turn_54 lk_RX9_f117 ?_
          obtain ⟨g17, h⟩ := h
          refine V_icmp_gt (tgt := 83) dX9_turn_57 (by decide) g17 (show inI (σ11 c0 10) from (inI_sh hR12 hc0.1 (by decide))) (fun q18 => ?_) (fun q18 => ?_)
          · have h := h.1 q18
            exact V_sub [1, 2, 3, 4, 5] rfl h
          · have h := h.2 q18
            refine V_aload_n 1 rfl rfl dX9_turn_60 ?_
            refine V_aload_n 2 rfl rfl dX9_turn_61 ?_
            refine V_iload 5 rfl dX9_turn_62 ?_
            refine V_iload_n 4 rfl rfl dX9_turn_64 ?_
            refine V_cV (M' := mX5_turned) (As := [.int (gI v4), .int (gI v3)]) (fun r => [.int (gI r), .ref (cxA X c0)]) ok_X5_turned ok2_X5_turned sh_1 rfl (by decide) rfl rfl (Nat.le_of_ble_eq_true rfl) dX9_turn_65 lk_RX9_m128 (by decide) (fun _ => rfl) h (fun r19 σ20 h => ?_)
            refine V_rng (fun hR21 => ?_)
            have h := h hR21
            refine V_iload 0 rfl dX9_turn_68 ?_
            refine V_iload 5 rfl dX9_turn_70 ?_
            refine V_bipush (v := 19) (by decide) dX9_turn_72 ?_
            refine V_ishl dX9_turn_74 ?_
            refine V_iload_n 4 rfl rfl dX9_turn_75 ?_
            refine V_bipush (v := 8) (by decide) dX9_turn_76 ?_
            refine V_ishl dX9_turn_78 ?_
            refine V_ior dX9_turn_79 ?_
            refine V_cV (M' := mX9_offer) (As := [.int (gI r19), .int (gI ((σ11 (c0 + 1) v3.toNat) + (σ11 11 v4.toNat))), .int (gI (zor (zshl v4 19) (zshl v3 8)))]) (fun _ => []) ok_X9_offer ok2_X9_offer hc0.1 rfl (by decide) rfl rfl (Nat.le_of_ble_eq_true rfl) dX9_turn_80 lk_RX9_m113 (by decide) (fun _ => rfl) h (fun r22 σ23 h => ?_)
            refine V_rng (fun hR24 => ?_)
            have h := h hR24
            exact V_sub [1, 2, 3, 4, 5] rfl h
set_option maxHeartbeats 2000000 in
set_option maxRecDepth 20000 in
theorem rX9_turn_83 {X : Cx} {c0 : Nat} {v3 : Int} {v4 : Int} (hc0 : isWay c0) {σ : Sg} {Q : Int → Sg → Prop} (h : Rng σ → GX9_turn_3 X c0 v3 (v4 + 1) σ Q) : GX9_turn_83 X c0 v3 v4 σ Q := by
  unfold GX9_turn_83
  refine V_rng (fun hR0 => ?_)
  have h := h hR0
  refine V_iinc (L' := [(4, .int (gI (v4 + 1))), (0, .ref (cxA X c0)), (1, .ref (cxA X 1)), (2, .ref (cxA X 11)), (3, .int (gI v3))]) 4 rfl (by decide) rfl dX9_turn_83 ?_
  refine V_goto (tgt := 3) dX9_turn_86 (by decide) ?_
  exact V_sub [1, 2, 3, 4, 0] rfl h
theorem eX9_turn {X : Cx} {c0 : Nat} {v3 : Int} {σ : Sg} {Q : Int → Sg → Prop} (h : GX9_turn_0 X c0 v3 σ Q) : KX9_turn X c0 v3 σ Q := V_enter (by decide) (Nat.le_of_ble_eq_true rfl) rfl h
def GX9_joinTwo_0 (X : Cx) (c0 : Nat) (v2 : Int) (v3 : Int) (σ : Sg) (Q : Int → Sg → Prop) : Prop := VV X mX9_joinTwo 0 [(0, .ref (cxA X c0)), (1, .ref (cxA X 11)), (2, .int (gI v2)), (3, .int (gI v3))] [] σ Q
def GX9_joinTwo_52 (X : Cx) (c0 : Nat) (v2 : Int) (v3 : Int) (v4 : Int) (v5 : Int) (σ : Sg) (Q : Int → Sg → Prop) : Prop := VV X mX9_joinTwo 52 [(0, .ref (cxA X c0)), (1, .ref (cxA X 11)), (2, .int (gI v2)), (3, .int (gI v3)), (4, .int (gI v4)), (5, .int (gI v5))] [] σ Q
def GX9_joinTwo_83 (X : Cx) (c0 : Nat) (v2 : Int) (v3 : Int) (v4 : Int) (v5 : Int) (σ : Sg) (Q : Int → Sg → Prop) : Prop := VV X mX9_joinTwo 83 [(0, .ref (cxA X c0)), (1, .ref (cxA X 11)), (2, .int (gI v2)), (3, .int (gI v3)), (4, .int (gI v4)), (5, .int (gI v5))] [] σ Q
set_option maxHeartbeats 2000000 in
set_option maxRecDepth 20000 in
theorem rX9_joinTwo_0 {X : Cx} {c0 : Nat} {v2 : Int} {v3 : Int} (hc0 : isWay c0) {σ : Sg} {Q : Int → Sg → Prop} (h : Rng σ → (0 ≤ v2 ∧ v2 < 256) ∧ (0 ≤ v3 ∧ v3 < 256) ∧ KX10_isKnown X (σ c0 7) 5 σ (fun r3 σ4 => Rng σ4 → (inI r3) ∧ ((r3 = 0 → GX9_joinTwo_52 X c0 v2 v3 ((σ (c0 + 1) v2.toNat) + (σ (c0 + 1) v3.toNat)) (zor (zshl v2 8) v3) σ4 Q) ∧ (¬ r3 = 0 → KX9_offer X c0 (zand v2 v3) (((σ (c0 + 1) v2.toNat) + (σ (c0 + 1) v3.toNat)) + (σ4 11 5)) (zor 2621440 (zor (zshl v2 8) v3)) σ4 (fun r8 σ9 => Rng σ9 → GX9_joinTwo_52 X c0 v2 v3 ((σ (c0 + 1) v2.toNat) + (σ (c0 + 1) v3.toNat)) (zor (zshl v2 8) v3) σ9 Q))))) : GX9_joinTwo_0 X c0 v2 v3 σ Q := by
  unfold GX9_joinTwo_0
  refine V_rng (fun hR0 => ?_)
  have h := h hR0
  refine V_aload_n 0 rfl rfl dX9_joinTwo_0 ?_
  refine V_getR (f := 0) ci_X9 hc0.1 rfl (by decide) (c1 := (c0 + 1)) rfl dX9_joinTwo_1 lk_RX9_f9 ?_
  refine V_iload_n 2 rfl rfl dX9_joinTwo_4 ?_
  obtain ⟨g1, h⟩ := h
  refine V_iald hc0.2.1 (by decide) g1 dX9_joinTwo_5 ?_
  refine V_aload_n 0 rfl rfl dX9_joinTwo_6 ?_
  refine V_getR (f := 0) ci_X9 hc0.1 rfl (by decide) (c1 := (c0 + 1)) rfl dX9_joinTwo_7 lk_RX9_f9 ?_
  refine V_iload_n 3 rfl rfl dX9_joinTwo_10 ?_
  obtain ⟨g2, h⟩ := h
  refine V_iald hc0.2.1 (by decide) g2 dX9_joinTwo_11 ?_
  refine V_iadd dX9_joinTwo_12 ?_
  refine V_istore (L' := [(4, .int (gI ((σ (c0 + 1) v2.toNat) + (σ (c0 + 1) v3.toNat)))), (0, .ref (cxA X c0)), (1, .ref (cxA X 11)), (2, .int (gI v2)), (3, .int (gI v3))]) (by decide) rfl dX9_joinTwo_13 ?_
  refine V_iload_n 3 rfl rfl dX9_joinTwo_15 ?_
  refine V_bipush (v := 8) (by decide) dX9_joinTwo_16 ?_
  refine V_ishl dX9_joinTwo_18 ?_
  refine V_iload_n 4 rfl rfl dX9_joinTwo_19 ?_
  refine V_ior dX9_joinTwo_20 ?_
  refine V_istore (L' := [(5, .int (gI (zor (zshl v2 8) v3))), (4, .int (gI ((σ (c0 + 1) v2.toNat) + (σ (c0 + 1) v3.toNat)))), (0, .ref (cxA X c0)), (1, .ref (cxA X 11)), (2, .int (gI v2)), (3, .int (gI v3))]) (by decide) rfl dX9_joinTwo_21 ?_
  refine V_aload_n 2 rfl rfl dX9_joinTwo_23 ?_
  refine V_getI (f := 7) ci_X9 hc0.1 rfl (by decide) dX9_joinTwo_24 lk_RX9_f42 ?_
  refine V_iconst dX9_joinTwo_27 ?_
  refine V_cS (M' := mX10_isKnown) (As := [.int (gI (σ c0 7)), .int (gI 5)]) (fun r => [.int (gI r)]) ok_X10_isKnown ok2_X10_isKnown rfl rfl (Nat.le_of_ble_eq_true rfl) dX9_joinTwo_28 lk_RX9_m88 (by decide) (fun _ => rfl) h (fun r3 σ4 h => ?_)
  refine V_rng (fun hR5 => ?_)
  have h := h hR5
  obtain ⟨g6, h⟩ := h
  refine V_if_eq (tgt := 52) dX9_joinTwo_31 (by decide) g6 (fun q7 => ?_) (fun q7 => ?_)
  · have h := h.1 q7
    exact V_sub [2, 3, 4, 5, 1, 0] rfl h
  · have h := h.2 q7
    refine V_aload_n 2 rfl rfl dX9_joinTwo_34 ?_
    refine V_iload_n 4 rfl rfl dX9_joinTwo_35 ?_
    refine V_iload_n 5 rfl rfl dX9_joinTwo_36 ?_
    refine V_iand dX9_joinTwo_37 ?_
    refine V_iload 1 rfl dX9_joinTwo_38 ?_
    refine V_aload_n 3 rfl rfl dX9_joinTwo_40 ?_
    refine V_iconst dX9_joinTwo_41 ?_
    refine V_iald sh_11 (by decide) (by decide) dX9_joinTwo_42 ?_
    refine V_iadd dX9_joinTwo_43 ?_
    refine V_ldc (x := 2621440) dX9_joinTwo_44 lk_RX9_c135 (by decide) ?_
    refine V_iload 0 rfl dX9_joinTwo_46 ?_
    refine V_ior dX9_joinTwo_48 ?_
    refine V_cV (M' := mX9_offer) (As := [.int (gI (zand v2 v3)), .int (gI (((σ (c0 + 1) v2.toNat) + (σ (c0 + 1) v3.toNat)) + (σ4 11 5))), .int (gI (zor 2621440 (zor (zshl v2 8) v3)))]) (fun _ => []) ok_X9_offer ok2_X9_offer hc0.1 rfl (by decide) rfl rfl (Nat.le_of_ble_eq_true rfl) dX9_joinTwo_49 lk_RX9_m113 (by decide) (fun _ => rfl) h (fun r8 σ9 h => ?_)
    refine V_rng (fun hR10 => ?_)
    have h := h hR10
    exact V_sub [2, 3, 4, 5, 1, 0] rfl h
set_option maxHeartbeats 2000000 in
set_option maxRecDepth 20000 in
theorem rX9_joinTwo_52 {X : Cx} {c0 : Nat} {v2 : Int} {v3 : Int} {v4 : Int} {v5 : Int} (hc0 : isWay c0) {σ : Sg} {Q : Int → Sg → Prop} (h : Rng σ → KX10_isKnown X (σ c0 7) 6 σ (fun r1 σ2 => Rng σ2 → (inI r1) ∧ ((r1 = 0 → GX9_joinTwo_83 X c0 v2 v3 v4 v5 σ2 Q) ∧ (¬ r1 = 0 → KX9_offer X c0 (zor v2 v3) (v4 + (σ2 11 6)) (zor 3145728 v5) σ2 (fun r6 σ7 => Rng σ7 → GX9_joinTwo_83 X c0 v2 v3 v4 v5 σ7 Q))))) : GX9_joinTwo_52 X c0 v2 v3 v4 v5 σ Q := by
  unfold GX9_joinTwo_52
  refine V_rng (fun hR0 => ?_)
  have h := h hR0
  refine V_aload_n 0 rfl rfl dX9_joinTwo_52 ?_
  refine V_getI (f := 7) ci_X9 hc0.1 rfl (by decide) dX9_joinTwo_53 lk_RX9_f42 ?_
  refine V_bipush (v := 6) (by decide) dX9_joinTwo_56 ?_
  refine V_cS (M' := mX10_isKnown) (As := [.int (gI (σ c0 7)), .int (gI 6)]) (fun r => [.int (gI r)]) ok_X10_isKnown ok2_X10_isKnown rfl rfl (Nat.le_of_ble_eq_true rfl) dX9_joinTwo_58 lk_RX9_m88 (by decide) (fun _ => rfl) h (fun r1 σ2 h => ?_)
  refine V_rng (fun hR3 => ?_)
  have h := h hR3
  obtain ⟨g4, h⟩ := h
  refine V_if_eq (tgt := 83) dX9_joinTwo_61 (by decide) g4 (fun q5 => ?_) (fun q5 => ?_)
  · have h := h.1 q5
    exact h
  · have h := h.2 q5
    refine V_aload_n 0 rfl rfl dX9_joinTwo_64 ?_
    refine V_iload_n 2 rfl rfl dX9_joinTwo_65 ?_
    refine V_iload_n 3 rfl rfl dX9_joinTwo_66 ?_
    refine V_ior dX9_joinTwo_67 ?_
    refine V_iload 4 rfl dX9_joinTwo_68 ?_
    refine V_aload_n 1 rfl rfl dX9_joinTwo_70 ?_
    refine V_bipush (v := 6) (by decide) dX9_joinTwo_71 ?_
    refine V_iald sh_11 (by decide) (by decide) dX9_joinTwo_73 ?_
    refine V_iadd dX9_joinTwo_74 ?_
    refine V_ldc (x := 3145728) dX9_joinTwo_75 lk_RX9_c136 (by decide) ?_
    refine V_iload 5 rfl dX9_joinTwo_77 ?_
    refine V_ior dX9_joinTwo_79 ?_
    refine V_cV (M' := mX9_offer) (As := [.int (gI (zor v2 v3)), .int (gI (v4 + (σ2 11 6))), .int (gI (zor 3145728 v5))]) (fun _ => []) ok_X9_offer ok2_X9_offer hc0.1 rfl (by decide) rfl rfl (Nat.le_of_ble_eq_true rfl) dX9_joinTwo_80 lk_RX9_m113 (by decide) (fun _ => rfl) h (fun r6 σ7 h => ?_)
    refine V_rng (fun hR8 => ?_)
    have h := h hR8
    exact h
set_option maxHeartbeats 2000000 in
set_option maxRecDepth 20000 in
theorem rX9_joinTwo_83 {X : Cx} {c0 : Nat} {v2 : Int} {v3 : Int} {v4 : Int} {v5 : Int} (hc0 : isWay c0) {σ : Sg} {Q : Int → Sg → Prop} (h : Rng σ → KX10_isKnown X (σ c0 7) 7 σ (fun r1 σ2 => Rng σ2 → (inI r1) ∧ ((r1 = 0 → Q 0 σ2) ∧ (¬ r1 = 0 → KX9_offer X c0 (zand v2 (zxor v3 ((-1)))) (v4 + (σ2 11 7)) (zor 3670016 v5) σ2 (fun r6 σ7 => Rng σ7 → KX9_offer X c0 (zand v3 (zxor v2 ((-1)))) (v4 + (σ7 11 7)) (zor (zor 3670016 (zshl v3 8)) v2) σ7 (fun r9 σ10 => Rng σ10 → Q 0 σ10)))))) : GX9_joinTwo_83 X c0 v2 v3 v4 v5 σ Q := by
  unfold GX9_joinTwo_83
  refine V_rng (fun hR0 => ?_)
  have h := h hR0
  refine V_aload_n 0 rfl rfl dX9_joinTwo_83 ?_
  refine V_getI (f := 7) ci_X9 hc0.1 rfl (by decide) dX9_joinTwo_84 lk_RX9_f42 ?_
  refine V_bipush (v := 7) (by decide) dX9_joinTwo_87 ?_
  refine V_cS (M' := mX10_isKnown) (As := [.int (gI (σ c0 7)), .int (gI 7)]) (fun r => [.int (gI r)]) ok_X10_isKnown ok2_X10_isKnown rfl rfl (Nat.le_of_ble_eq_true rfl) dX9_joinTwo_89 lk_RX9_m88 (by decide) (fun _ => rfl) h (fun r1 σ2 h => ?_)
  refine V_rng (fun hR3 => ?_)
  have h := h hR3
  obtain ⟨g4, h⟩ := h
  refine V_if_eq (tgt := 141) dX9_joinTwo_92 (by decide) g4 (fun q5 => ?_) (fun q5 => ?_)
  · have h := h.1 q5
    exact V_vret rfl dX9_joinTwo_141 h
  · have h := h.2 q5
    refine V_aload_n 0 rfl rfl dX9_joinTwo_95 ?_
    refine V_iload_n 2 rfl rfl dX9_joinTwo_96 ?_
    refine V_iload_n 3 rfl rfl dX9_joinTwo_97 ?_
    refine V_iconst dX9_joinTwo_98 ?_
    refine V_ixor dX9_joinTwo_99 ?_
    refine V_iand dX9_joinTwo_100 ?_
    refine V_iload 4 rfl dX9_joinTwo_101 ?_
    refine V_aload_n 1 rfl rfl dX9_joinTwo_103 ?_
    refine V_bipush (v := 7) (by decide) dX9_joinTwo_104 ?_
    refine V_iald sh_11 (by decide) (by decide) dX9_joinTwo_106 ?_
    refine V_iadd dX9_joinTwo_107 ?_
    refine V_ldc (x := 3670016) dX9_joinTwo_108 lk_RX9_c137 (by decide) ?_
    refine V_iload 5 rfl dX9_joinTwo_110 ?_
    refine V_ior dX9_joinTwo_112 ?_
    refine V_cV (M' := mX9_offer) (As := [.int (gI (zand v2 (zxor v3 ((-1))))), .int (gI (v4 + (σ2 11 7))), .int (gI (zor 3670016 v5))]) (fun _ => []) ok_X9_offer ok2_X9_offer hc0.1 rfl (by decide) rfl rfl (Nat.le_of_ble_eq_true rfl) dX9_joinTwo_113 lk_RX9_m113 (by decide) (fun _ => rfl) h (fun r6 σ7 h => ?_)
    refine V_rng (fun hR8 => ?_)
    have h := h hR8
    refine V_aload_n 0 rfl rfl dX9_joinTwo_116 ?_
    refine V_iload_n 3 rfl rfl dX9_joinTwo_117 ?_
    refine V_iload_n 2 rfl rfl dX9_joinTwo_118 ?_
    refine V_iconst dX9_joinTwo_119 ?_
    refine V_ixor dX9_joinTwo_120 ?_
    refine V_iand dX9_joinTwo_121 ?_
    refine V_iload 4 rfl dX9_joinTwo_122 ?_
    refine V_aload_n 1 rfl rfl dX9_joinTwo_124 ?_
    refine V_bipush (v := 7) (by decide) dX9_joinTwo_125 ?_
    refine V_iald sh_11 (by decide) (by decide) dX9_joinTwo_127 ?_
    refine V_iadd dX9_joinTwo_128 ?_
    refine V_ldc (x := 3670016) dX9_joinTwo_129 lk_RX9_c137 (by decide) ?_
    refine V_iload_n 3 rfl rfl dX9_joinTwo_131 ?_
    refine V_bipush (v := 8) (by decide) dX9_joinTwo_132 ?_
    refine V_ishl dX9_joinTwo_134 ?_
    refine V_ior dX9_joinTwo_135 ?_
    refine V_iload_n 2 rfl rfl dX9_joinTwo_136 ?_
    refine V_ior dX9_joinTwo_137 ?_
    refine V_cV (M' := mX9_offer) (As := [.int (gI (zand v3 (zxor v2 ((-1))))), .int (gI (v4 + (σ7 11 7))), .int (gI (zor (zor 3670016 (zshl v3 8)) v2))]) (fun _ => []) ok_X9_offer ok2_X9_offer hc0.1 rfl (by decide) rfl rfl (Nat.le_of_ble_eq_true rfl) dX9_joinTwo_138 lk_RX9_m113 (by decide) (fun _ => rfl) h (fun r9 σ10 h => ?_)
    refine V_rng (fun hR11 => ?_)
    have h := h hR11
    exact V_vret rfl dX9_joinTwo_141 h
theorem eX9_joinTwo {X : Cx} {c0 : Nat} {v2 : Int} {v3 : Int} {σ : Sg} {Q : Int → Sg → Prop} (h : GX9_joinTwo_0 X c0 v2 v3 σ Q) : KX9_joinTwo X c0 v2 v3 σ Q := V_enter (by decide) (Nat.le_of_ble_eq_true rfl) rfl h
def GX9_joinAll_0 (X : Cx) (c0 : Nat) (v2 : Int) (σ : Sg) (Q : Int → Sg → Prop) : Prop := VV X mX9_joinAll 0 [(0, .ref (cxA X c0)), (1, .ref (cxA X 11)), (2, .int (gI v2))] [] σ Q
def GX9_joinAll_2 (X : Cx) (c0 : Nat) (v2 : Int) (v3 : Int) (σ : Sg) (Q : Int → Sg → Prop) : Prop := VV X mX9_joinAll 2 [(0, .ref (cxA X c0)), (1, .ref (cxA X 11)), (2, .int (gI v2)), (3, .int (gI v3))] [] σ Q
def GX9_joinAll_77 (X : Cx) (c0 : Nat) (v2 : Int) (v3 : Int) (v4 : Int) (s0 : Int) (σ : Sg) (Q : Int → Sg → Prop) : Prop := VV X mX9_joinAll 77 [(0, .ref (cxA X c0)), (1, .ref (cxA X 11)), (2, .int (gI v2)), (3, .int (gI v3)), (4, .int (gI v4))] [.int (gI s0)] σ Q
def GX9_joinAll_92 (X : Cx) (c0 : Nat) (v2 : Int) (v3 : Int) (v4 : Int) (v5 : Int) (s0 : Int) (σ : Sg) (Q : Int → Sg → Prop) : Prop := VV X mX9_joinAll 92 [(0, .ref (cxA X c0)), (1, .ref (cxA X 11)), (2, .int (gI v2)), (3, .int (gI v3)), (4, .int (gI v4)), (5, .int (gI v5))] [.int (gI s0), .ref (cxA X 11), .ref (cxA X c0)] σ Q
def GX9_joinAll_103 (X : Cx) (c0 : Nat) (v2 : Int) (v3 : Int) (v4 : Int) (v5 : Int) (s0 : Int) (s1 : Int) (σ : Sg) (Q : Int → Sg → Prop) : Prop := VV X mX9_joinAll 103 [(0, .ref (cxA X c0)), (1, .ref (cxA X 11)), (2, .int (gI v2)), (3, .int (gI v3)), (4, .int (gI v4)), (5, .int (gI v5))] [.int (gI s0), .int (gI s1), .ref (cxA X 11), .ref (cxA X c0)] σ Q
set_option maxHeartbeats 2000000 in
set_option maxRecDepth 20000 in
theorem rX9_joinAll_0 {X : Cx} {c0 : Nat} {v2 : Int} (hc0 : isWay c0) {σ : Sg} {Q : Int → Sg → Prop} (h : Rng σ → GX9_joinAll_2 X c0 v2 0 σ Q) : GX9_joinAll_0 X c0 v2 σ Q := by
  unfold GX9_joinAll_0
  refine V_rng (fun hR0 => ?_)
  have h := h hR0
  refine V_iconst dX9_joinAll_0 ?_
  refine V_istore_n (L' := [(3, .int (gI 0)), (0, .ref (cxA X c0)), (1, .ref (cxA X 11)), (2, .int (gI v2))]) rfl (by decide) rfl dX9_joinAll_1 ?_
  exact V_sub [1, 2, 3, 0] rfl h
set_option maxHeartbeats 2000000 in
set_option maxRecDepth 20000 in
theorem rX9_joinAll_2 {X : Cx} {c0 : Nat} {v2 : Int} {v3 : Int} (hc0 : isWay c0) {σ : Sg} {Q : Int → Sg → Prop} (h : Rng σ → (inI v3) ∧ (((σ c0 6) ≤ v3 → Q 0 σ) ∧ (v3 < (σ c0 6) → (inI v3) ∧ ((256 ≤ v3 → Q 0 σ) ∧ (v3 < 256 → (0 ≤ v3 ∧ v3 < 256) ∧ (0 ≤ v2 ∧ v2 < 256) ∧ (0 ≤ zand (σ (c0 + 6) v3.toNat) 255 ∧ zand (σ (c0 + 6) v3.toNat) 255 < 256) ∧ (inI (((σ (c0 + 1) v2.toNat) + (σ (c0 + 1) ((zand (σ (c0 + 6) v3.toNat) 255).toNat))) + (σ c0 11))) ∧ (((((σ (c0 + 1) v2.toNat) + (σ (c0 + 1) ((zand (σ (c0 + 6) v3.toNat) 255).toNat))) + (σ c0 11)) ≤ (σ c0 10) → (0 ≤ v2 ∧ v2 < 256) ∧ (0 ≤ zand (σ (c0 + 6) v3.toNat) 255 ∧ zand (σ (c0 + 6) v3.toNat) 255 < 256) ∧ (((σ (c0 + 4) ((zand (σ (c0 + 6) v3.toNat) 255).toNat)) ≤ (σ (c0 + 4) v2.toNat) → GX9_joinAll_77 X c0 v2 v3 (zand (σ (c0 + 6) v3.toNat) 255) 0 σ Q) ∧ ((σ (c0 + 4) v2.toNat) < (σ (c0 + 4) ((zand (σ (c0 + 6) v3.toNat) 255).toNat)) → GX9_joinAll_77 X c0 v2 v3 (zand (σ (c0 + 6) v3.toNat) 255) 1 σ Q))) ∧ ((σ c0 10) < (((σ (c0 + 1) v2.toNat) + (σ (c0 + 1) ((zand (σ (c0 + 6) v3.toNat) 255).toNat))) + (σ c0 11)) → Q 0 σ))))))) : GX9_joinAll_2 X c0 v2 v3 σ Q := by
  unfold GX9_joinAll_2
  refine V_rng (fun hR0 => ?_)
  have h := h hR0
  refine V_iload_n 3 rfl rfl dX9_joinAll_2 ?_
  refine V_aload_n 0 rfl rfl dX9_joinAll_3 ?_
  refine V_getI (f := 6) ci_X9 hc0.1 rfl (by decide) dX9_joinAll_4 lk_RX9_f75 ?_
  obtain ⟨g1, h⟩ := h
  refine V_icmp_ge (tgt := 112) dX9_joinAll_7 (by decide) g1 (show inI (σ c0 6) from (inI_sh hR0 hc0.1 (by decide))) (fun q2 => ?_) (fun q2 => ?_)
  · have h := h.1 q2
    exact V_vret rfl dX9_joinAll_112 h
  · have h := h.2 q2
    refine V_iload_n 3 rfl rfl dX9_joinAll_10 ?_
    refine V_sipush (v := 256) (by decide) dX9_joinAll_11 ?_
    obtain ⟨g3, h⟩ := h
    refine V_icmp_ge (tgt := 112) dX9_joinAll_14 (by decide) g3 (by decide) (fun q4 => ?_) (fun q4 => ?_)
    · have h := h.1 q4
      exact V_vret rfl dX9_joinAll_112 h
    · have h := h.2 q4
      refine V_aload_n 0 rfl rfl dX9_joinAll_17 ?_
      refine V_getR (f := 5) ci_X9 hc0.1 rfl (by decide) (c1 := (c0 + 6)) rfl dX9_joinAll_18 lk_RX9_f27 ?_
      refine V_iload_n 3 rfl rfl dX9_joinAll_21 ?_
      obtain ⟨g5, h⟩ := h
      refine V_iald hc0.2.2.2.2.2.2 (by decide) g5 dX9_joinAll_22 ?_
      refine V_sipush (v := 255) (by decide) dX9_joinAll_23 ?_
      refine V_iand dX9_joinAll_26 ?_
      refine V_istore (L' := [(4, .int (gI (zand (σ (c0 + 6) v3.toNat) 255))), (0, .ref (cxA X c0)), (1, .ref (cxA X 11)), (2, .int (gI v2)), (3, .int (gI v3))]) (by decide) rfl dX9_joinAll_27 ?_
      refine V_aload_n 1 rfl rfl dX9_joinAll_29 ?_
      refine V_getR (f := 0) ci_X9 hc0.1 rfl (by decide) (c1 := (c0 + 1)) rfl dX9_joinAll_30 lk_RX9_f9 ?_
      refine V_iload_n 3 rfl rfl dX9_joinAll_33 ?_
      obtain ⟨g6, h⟩ := h
      refine V_iald hc0.2.1 (by decide) g6 dX9_joinAll_34 ?_
      refine V_aload_n 1 rfl rfl dX9_joinAll_35 ?_
      refine V_getR (f := 0) ci_X9 hc0.1 rfl (by decide) (c1 := (c0 + 1)) rfl dX9_joinAll_36 lk_RX9_f9 ?_
      refine V_iload 0 rfl dX9_joinAll_39 ?_
      obtain ⟨g7, h⟩ := h
      refine V_iald hc0.2.1 (by decide) g7 dX9_joinAll_41 ?_
      refine V_iadd dX9_joinAll_42 ?_
      refine V_aload_n 1 rfl rfl dX9_joinAll_43 ?_
      refine V_getI (f := 11) ci_X9 hc0.1 rfl (by decide) dX9_joinAll_44 lk_RX9_f83 ?_
      refine V_iadd dX9_joinAll_47 ?_
      refine V_aload_n 1 rfl rfl dX9_joinAll_48 ?_
      refine V_getI (f := 10) ci_X9 hc0.1 rfl (by decide) dX9_joinAll_49 lk_RX9_f117 ?_
      obtain ⟨g8, h⟩ := h
      refine V_icmp_le (tgt := 56) dX9_joinAll_52 (by decide) g8 (show inI (σ c0 10) from (inI_sh hR0 hc0.1 (by decide))) (fun q9 => ?_) (fun q9 => ?_)
      · have h := h.1 q9
        refine V_aload_n 1 rfl rfl dX9_joinAll_56 ?_
        refine V_getR (f := 3) ci_X9 hc0.1 rfl (by decide) (c1 := (c0 + 4)) rfl dX9_joinAll_57 lk_RX9_f21 ?_
        refine V_iload_n 3 rfl rfl dX9_joinAll_60 ?_
        obtain ⟨g10, h⟩ := h
        refine V_iald hc0.2.2.2.2.1 (by decide) g10 dX9_joinAll_61 ?_
        refine V_aload_n 1 rfl rfl dX9_joinAll_62 ?_
        refine V_getR (f := 3) ci_X9 hc0.1 rfl (by decide) (c1 := (c0 + 4)) rfl dX9_joinAll_63 lk_RX9_f21 ?_
        refine V_iload 0 rfl dX9_joinAll_66 ?_
        obtain ⟨g11, h⟩ := h
        refine V_iald hc0.2.2.2.2.1 (by decide) g11 dX9_joinAll_68 ?_
        refine V_icmp_ge (tgt := 76) dX9_joinAll_69 (by decide) (show inI (σ (c0 + 4) v2.toNat) from (inI_sh hR0 hc0.2.2.2.2.1 (by decide))) (show inI (σ (c0 + 4) ((zand (σ (c0 + 6) v3.toNat) 255).toNat)) from (inI_sh hR0 hc0.2.2.2.2.1 (by decide))) (fun q12 => ?_) (fun q12 => ?_)
        · have h := h.1 q12
          refine V_iconst dX9_joinAll_76 ?_
          exact V_sub [1, 2, 3, 4, 0] rfl h
        · have h := h.2 q12
          refine V_iconst dX9_joinAll_72 ?_
          refine V_goto (tgt := 77) dX9_joinAll_73 (by decide) ?_
          exact V_sub [1, 2, 3, 4, 0] rfl h
      · have h := h.2 q9
        exact V_vret rfl dX9_joinAll_55 h
set_option maxHeartbeats 2000000 in
set_option maxRecDepth 20000 in
theorem rX9_joinAll_77 {X : Cx} {c0 : Nat} {v2 : Int} {v3 : Int} {v4 : Int} {s0 : Int} (hc0 : isWay c0) {σ : Sg} {Q : Int → Sg → Prop} (h : Rng σ → (inI s0) ∧ ((s0 = 0 → GX9_joinAll_92 X c0 v2 v3 v4 s0 v4 σ Q) ∧ (¬ s0 = 0 → GX9_joinAll_92 X c0 v2 v3 v4 s0 v2 σ Q))) : GX9_joinAll_77 X c0 v2 v3 v4 s0 σ Q := by
  unfold GX9_joinAll_77
  refine V_rng (fun hR0 => ?_)
  have h := h hR0
  refine V_istore (L' := [(5, .int (gI s0)), (0, .ref (cxA X c0)), (1, .ref (cxA X 11)), (2, .int (gI v2)), (3, .int (gI v3)), (4, .int (gI v4))]) (by decide) rfl dX9_joinAll_77 ?_
  refine V_aload_n 1 rfl rfl dX9_joinAll_79 ?_
  refine V_aload_n 2 rfl rfl dX9_joinAll_80 ?_
  refine V_iload 0 rfl dX9_joinAll_81 ?_
  obtain ⟨g1, h⟩ := h
  refine V_if_eq (tgt := 90) dX9_joinAll_83 (by decide) g1 (fun q2 => ?_) (fun q2 => ?_)
  · have h := h.1 q2
    refine V_iload 5 rfl dX9_joinAll_90 ?_
    exact V_sub [1, 2, 3, 4, 5, 0] rfl h
  · have h := h.2 q2
    refine V_iload_n 3 rfl rfl dX9_joinAll_86 ?_
    refine V_goto (tgt := 92) dX9_joinAll_87 (by decide) ?_
    exact V_sub [1, 2, 3, 4, 5, 0] rfl h
set_option maxHeartbeats 2000000 in
set_option maxRecDepth 20000 in
theorem rX9_joinAll_92 {X : Cx} {c0 : Nat} {v2 : Int} {v3 : Int} {v4 : Int} {v5 : Int} {s0 : Int} (hc0 : isWay c0) {σ : Sg} {Q : Int → Sg → Prop} (h : Rng σ → (inI v5) ∧ ((v5 = 0 → GX9_joinAll_103 X c0 v2 v3 v4 v5 v2 s0 σ Q) ∧ (¬ v5 = 0 → GX9_joinAll_103 X c0 v2 v3 v4 v5 v4 s0 σ Q))) : GX9_joinAll_92 X c0 v2 v3 v4 v5 s0 σ Q := by
  unfold GX9_joinAll_92
  refine V_rng (fun hR0 => ?_)
  have h := h hR0
  refine V_iload 5 rfl dX9_joinAll_92 ?_
  obtain ⟨g1, h⟩ := h
  refine V_if_eq (tgt := 102) dX9_joinAll_94 (by decide) g1 (fun q2 => ?_) (fun q2 => ?_)
  · have h := h.1 q2
    refine V_iload_n 2 rfl rfl dX9_joinAll_102 ?_
    exact h
  · have h := h.2 q2
    refine V_iload 4 rfl dX9_joinAll_97 ?_
    refine V_goto (tgt := 103) dX9_joinAll_99 (by decide) ?_
    exact h
set_option maxHeartbeats 2000000 in
set_option maxRecDepth 20000 in
theorem rX9_joinAll_103 {X : Cx} {c0 : Nat} {v2 : Int} {v3 : Int} {v4 : Int} {v5 : Int} {s0 : Int} {s1 : Int} (hc0 : isWay c0) {σ : Sg} {Q : Int → Sg → Prop} (h : Rng σ → KX9_joinTwo X c0 s1 s0 σ (fun r1 σ2 => Rng σ2 → GX9_joinAll_2 X c0 v2 (v3 + 1) σ2 Q)) : GX9_joinAll_103 X c0 v2 v3 v4 v5 s0 s1 σ Q := by
  unfold GX9_joinAll_103
  refine V_rng (fun hR0 => ?_)
  have h := h hR0
  refine V_cV (M' := mX9_joinTwo) (As := [.ref (cxA X 11), .int (gI s1), .int (gI s0)]) (fun _ => []) ok_X9_joinTwo ok2_X9_joinTwo hc0.1 rfl (by decide) rfl rfl (Nat.le_of_ble_eq_true rfl) dX9_joinAll_103 lk_RX9_m131 (by decide) (fun _ => rfl) h (fun r1 σ2 h => ?_)
  refine V_rng (fun hR3 => ?_)
  have h := h hR3
  refine V_iinc (L' := [(3, .int (gI (v3 + 1))), (0, .ref (cxA X c0)), (1, .ref (cxA X 11)), (2, .int (gI v2)), (4, .int (gI v4)), (5, .int (gI v5))]) 3 rfl (by decide) rfl dX9_joinAll_106 ?_
  refine V_goto (tgt := 2) dX9_joinAll_109 (by decide) ?_
  exact V_sub [1, 2, 3, 0] rfl h
theorem eX9_joinAll {X : Cx} {c0 : Nat} {v2 : Int} {σ : Sg} {Q : Int → Sg → Prop} (h : GX9_joinAll_0 X c0 v2 σ Q) : KX9_joinAll X c0 v2 σ Q := V_enter (by decide) (Nat.le_of_ble_eq_true rfl) rfl h
def GX9_fill_0 (X : Cx) (c0 : Nat) (v3 : Int) (v4 : Int) (σ : Sg) (Q : Int → Sg → Prop) : Prop := VV X mX9_fill 0 [(0, .ref (cxA X c0)), (1, .ref (cxA X 1)), (2, .ref (cxA X 11)), (3, .int (gI v3)), (4, .int (gI v4))] [] σ Q
def GX9_fill_26 (X : Cx) (c0 : Nat) (v3 : Int) (v4 : Int) (v5 : Int) (v6 : Int) (σ : Sg) (Q : Int → Sg → Prop) : Prop := VV X mX9_fill 26 [(0, .ref (cxA X c0)), (1, .ref (cxA X 1)), (2, .ref (cxA X 11)), (3, .int (gI v3)), (4, .int (gI v4)), (5, .int (gI v5)), (6, .int (gI v6))] [] σ Q
set_option maxHeartbeats 2000000 in
set_option maxRecDepth 20000 in
theorem rX9_fill_0 {X : Cx} {c0 : Nat} {v3 : Int} {v4 : Int} (hc0 : isWay c0) {σ : Sg} {Q : Int → Sg → Prop} (h : Rng σ → (inI v3) ∧ (v4 = 0 ∨ v4 = 1) ∧ KX9_start X c0 (up2 (up2 σ c0 7 v3) c0 9 v4) (fun r3 σ4 => Rng σ4 → KX5_all X σ4 (fun r6 σ7 => Rng σ7 → GX9_fill_26 X c0 v3 v4 r6 0 σ7 Q))) : GX9_fill_0 X c0 v3 v4 σ Q := by
  unfold GX9_fill_0
  refine V_rng (fun hR0 => ?_)
  have h := h hR0
  refine V_aload_n 0 rfl rfl dX9_fill_0 ?_
  refine V_iload_n 3 rfl rfl dX9_fill_1 ?_
  obtain ⟨g1, h⟩ := h
  refine V_putI (f := 7) ci_X9 hc0.1 rfl (by decide) rfl rfl g1 dX9_fill_2 lk_RX9_f42 ?_
  refine V_aload_n 0 rfl rfl dX9_fill_5 ?_
  refine V_iload 4 rfl dX9_fill_6 ?_
  obtain ⟨g2, h⟩ := h
  refine V_putZ (f := 9) ci_X9 hc0.1 rfl (by decide) rfl rfl g2 dX9_fill_8 lk_RX9_f45 ?_
  refine V_aload_n 0 rfl rfl dX9_fill_11 ?_
  refine V_aload_n 1 rfl rfl dX9_fill_12 ?_
  refine V_aload_n 2 rfl rfl dX9_fill_13 ?_
  refine V_cV (M' := mX9_start) (As := [.ref (cxA X 1), .ref (cxA X 11)]) (fun _ => []) ok_X9_start ok2_X9_start hc0.1 rfl (by decide) rfl rfl (Nat.le_of_ble_eq_true rfl) dX9_fill_14 lk_RX9_m49 (by decide) (fun _ => rfl) h (fun r3 σ4 h => ?_)
  refine V_rng (fun hR5 => ?_)
  have h := h hR5
  refine V_aload_n 1 rfl rfl dX9_fill_17 ?_
  refine V_cV (M' := mX5_all) (As := []) (fun r => [.int (gI r)]) ok_X5_all ok2_X5_all sh_1 rfl (by decide) rfl rfl (Nat.le_of_ble_eq_true rfl) dX9_fill_18 lk_RX9_m53 (by decide) (fun _ => rfl) h (fun r6 σ7 h => ?_)
  refine V_rng (fun hR8 => ?_)
  have h := h hR8
  refine V_istore (L' := [(5, .int (gI r6)), (0, .ref (cxA X c0)), (1, .ref (cxA X 1)), (2, .ref (cxA X 11)), (3, .int (gI v3)), (4, .int (gI v4))]) (by decide) rfl dX9_fill_21 ?_
  refine V_iconst dX9_fill_23 ?_
  refine V_istore (L' := [(6, .int (gI 0)), (5, .int (gI r6)), (0, .ref (cxA X c0)), (1, .ref (cxA X 1)), (2, .ref (cxA X 11)), (3, .int (gI v3)), (4, .int (gI v4))]) (by decide) rfl dX9_fill_24 ?_
  exact V_sub [2, 3, 4, 5, 6, 1, 0] rfl h
set_option maxHeartbeats 2000000 in
set_option maxRecDepth 20000 in
theorem rX9_fill_26 {X : Cx} {c0 : Nat} {v3 : Int} {v4 : Int} {v5 : Int} {v6 : Int} (hc0 : isWay c0) {σ : Sg} {Q : Int → Sg → Prop} (h : Rng σ → (inI v6) ∧ (inI v5) ∧ ((v5 < v6 → Q 0 σ) ∧ (v6 ≤ v5 → KX9_nearest X c0 v5 σ (fun r4 σ5 => Rng σ5 → (inI r4) ∧ ((¬ r4 = ((-1)) → KX9_reach X c0 r4 σ5 (fun r9 σ10 => Rng σ10 → KX9_turn X c0 r4 σ10 (fun r12 σ13 => Rng σ13 → KX9_joinAll X c0 r4 σ13 (fun r15 σ16 => Rng σ16 → GX9_fill_26 X c0 v3 v4 v5 (v6 + 1) σ16 Q)))) ∧ (r4 = ((-1)) → Q 0 σ5)))))) : GX9_fill_26 X c0 v3 v4 v5 v6 σ Q := by
  unfold GX9_fill_26
  refine V_rng (fun hR0 => ?_)
  have h := h hR0
  refine V_iload 6 rfl dX9_fill_26 ?_
  refine V_iload 5 rfl dX9_fill_28 ?_
  obtain ⟨g1, h⟩ := h
  obtain ⟨g2, h⟩ := h
  refine V_icmp_gt (tgt := 75) dX9_fill_30 (by decide) g1 g2 (fun q3 => ?_) (fun q3 => ?_)
  · have h := h.1 q3
    exact V_vret rfl dX9_fill_75 h
  · have h := h.2 q3
    refine V_aload_n 0 rfl rfl dX9_fill_33 ?_
    refine V_iload 5 rfl dX9_fill_34 ?_
    refine V_cV (M' := mX9_nearest) (As := [.int (gI v5)]) (fun r => [.int (gI r)]) ok_X9_nearest ok2_X9_nearest hc0.1 rfl (by decide) rfl rfl (Nat.le_of_ble_eq_true rfl) dX9_fill_36 lk_RX9_m59 (by decide) (fun _ => rfl) h (fun r4 σ5 h => ?_)
    refine V_rng (fun hR6 => ?_)
    have h := h hR6
    refine V_istore (L' := [(7, .int (gI r4)), (0, .ref (cxA X c0)), (1, .ref (cxA X 1)), (2, .ref (cxA X 11)), (3, .int (gI v3)), (4, .int (gI v4)), (5, .int (gI v5)), (6, .int (gI v6))]) (by decide) rfl dX9_fill_39 ?_
    refine V_iload 0 rfl dX9_fill_41 ?_
    refine V_iconst dX9_fill_43 ?_
    obtain ⟨g7, h⟩ := h
    refine V_icmp_ne (tgt := 48) dX9_fill_44 (by decide) g7 (by decide) (fun q8 => ?_) (fun q8 => ?_)
    · have h := h.1 q8
      refine V_aload_n 1 rfl rfl dX9_fill_48 ?_
      refine V_iload 0 rfl dX9_fill_49 ?_
      refine V_cV (M' := mX9_reach) (As := [.int (gI r4)]) (fun _ => []) ok_X9_reach ok2_X9_reach hc0.1 rfl (by decide) rfl rfl (Nat.le_of_ble_eq_true rfl) dX9_fill_51 lk_RX9_m63 (by decide) (fun _ => rfl) h (fun r9 σ10 h => ?_)
      refine V_rng (fun hR11 => ?_)
      have h := h hR11
      refine V_aload_n 1 rfl rfl dX9_fill_54 ?_
      refine V_aload_n 2 rfl rfl dX9_fill_55 ?_
      refine V_aload_n 3 rfl rfl dX9_fill_56 ?_
      refine V_iload 0 rfl dX9_fill_57 ?_
      refine V_cV (M' := mX9_turn) (As := [.ref (cxA X 1), .ref (cxA X 11), .int (gI r4)]) (fun _ => []) ok_X9_turn ok2_X9_turn hc0.1 rfl (by decide) rfl rfl (Nat.le_of_ble_eq_true rfl) dX9_fill_59 lk_RX9_m67 (by decide) (fun _ => rfl) h (fun r12 σ13 h => ?_)
      refine V_rng (fun hR14 => ?_)
      have h := h hR14
      refine V_aload_n 1 rfl rfl dX9_fill_62 ?_
      refine V_aload_n 3 rfl rfl dX9_fill_63 ?_
      refine V_iload 0 rfl dX9_fill_64 ?_
      refine V_cV (M' := mX9_joinAll) (As := [.ref (cxA X 11), .int (gI r4)]) (fun _ => []) ok_X9_joinAll ok2_X9_joinAll hc0.1 rfl (by decide) rfl rfl (Nat.le_of_ble_eq_true rfl) dX9_fill_66 lk_RX9_m71 (by decide) (fun _ => rfl) h (fun r15 σ16 h => ?_)
      refine V_rng (fun hR17 => ?_)
      have h := h hR17
      refine V_iinc (L' := [(6, .int (gI (v6 + 1))), (7, .int (gI r4)), (0, .ref (cxA X c0)), (1, .ref (cxA X 1)), (2, .ref (cxA X 11)), (3, .int (gI v3)), (4, .int (gI v4)), (5, .int (gI v5))]) 7 rfl (by decide) rfl dX9_fill_69 ?_
      refine V_goto (tgt := 26) dX9_fill_72 (by decide) ?_
      exact V_sub [2, 3, 4, 5, 6, 7, 0] rfl h
    · have h := h.2 q8
      exact V_vret rfl dX9_fill_47 h
theorem eX9_fill {X : Cx} {c0 : Nat} {v3 : Int} {v4 : Int} {σ : Sg} {Q : Int → Sg → Prop} (h : GX9_fill_0 X c0 v3 v4 σ Q) : KX9_fill X c0 v3 v4 σ Q := V_enter (by decide) (Nat.le_of_ble_eq_true rfl) rfl h
def GX9_isReached_0 (X : Cx) (c0 : Nat) (v1 : Int) (σ : Sg) (Q : Int → Sg → Prop) : Prop := VV X mX9_isReached 0 [(0, .ref (cxA X c0)), (1, .int (gI v1))] [] σ Q
set_option maxHeartbeats 2000000 in
set_option maxRecDepth 20000 in
theorem rX9_isReached_0 {X : Cx} {c0 : Nat} {v1 : Int} (hc0 : isWay c0) {σ : Sg} {Q : Int → Sg → Prop} (h : Rng σ → KX11_isWithin X v1 256 σ (fun r1 σ2 => Rng σ2 → (inI r1) ∧ ((r1 = 0 → Q 0 σ2) ∧ (¬ r1 = 0 → (0 ≤ v1 ∧ v1 < 256) ∧ (((σ2 (c0 + 4) v1.toNat) = ((-1)) → Q 0 σ2) ∧ (¬ (σ2 (c0 + 4) v1.toNat) = ((-1)) → Q 1 σ2)))))) : GX9_isReached_0 X c0 v1 σ Q := by
  unfold GX9_isReached_0
  refine V_rng (fun hR0 => ?_)
  have h := h hR0
  refine V_iload_n 1 rfl rfl dX9_isReached_0 ?_
  refine V_sipush (v := 256) (by decide) dX9_isReached_1 ?_
  refine V_cN (M' := mX11_isWithin) (As := [.int (gI v1), .int (gI 256)]) (fun r => [.int (gI r)]) ok_X11_isWithin ok2_X11_isWithin rfl rfl (Nat.le_of_ble_eq_true rfl) dX9_isReached_4 lk_RX9_m34 (by decide) (fun _ => rfl) h (fun r1 σ2 h => ?_)
  refine V_rng (fun hR3 => ?_)
  have h := h hR3
  obtain ⟨g4, h⟩ := h
  refine V_if_eq (tgt := 24) dX9_isReached_7 (by decide) g4 (fun q5 => ?_) (fun q5 => ?_)
  · have h := h.1 q5
    refine V_iconst dX9_isReached_24 ?_
    exact V_iret rfl (fun _ q => by cases q) (by decide) dX9_isReached_25 h
  · have h := h.2 q5
    refine V_aload_n 0 rfl rfl dX9_isReached_10 ?_
    refine V_getR (f := 3) ci_X9 hc0.1 rfl (by decide) (c1 := (c0 + 4)) rfl dX9_isReached_11 lk_RX9_f21 ?_
    refine V_iload_n 1 rfl rfl dX9_isReached_14 ?_
    obtain ⟨g6, h⟩ := h
    refine V_iald hc0.2.2.2.2.1 (by decide) g6 dX9_isReached_15 ?_
    refine V_iconst dX9_isReached_16 ?_
    refine V_icmp_eq (tgt := 24) dX9_isReached_17 (by decide) (show inI (σ2 (c0 + 4) v1.toNat) from (inI_sh hR3 hc0.2.2.2.2.1 (by decide))) (by decide) (fun q7 => ?_) (fun q7 => ?_)
    · have h := h.1 q7
      refine V_iconst dX9_isReached_24 ?_
      exact V_iret rfl (fun _ q => by cases q) (by decide) dX9_isReached_25 h
    · have h := h.2 q7
      refine V_iconst dX9_isReached_20 ?_
      refine V_goto (tgt := 25) dX9_isReached_21 (by decide) ?_
      exact V_iret rfl (fun _ q => by cases q) (by decide) dX9_isReached_25 h
theorem eX9_isReached {X : Cx} {c0 : Nat} {v1 : Int} {σ : Sg} {Q : Int → Sg → Prop} (h : GX9_isReached_0 X c0 v1 σ Q) : KX9_isReached X c0 v1 σ Q := V_enter (by decide) (Nat.le_of_ble_eq_true rfl) rfl h
def GX9_worthOf_0 (X : Cx) (c0 : Nat) (v1 : Int) (σ : Sg) (Q : Int → Sg → Prop) : Prop := VV X mX9_worthOf 0 [(0, .ref (cxA X c0)), (1, .int (gI v1))] [] σ Q
def GX9_worthOf_4 (X : Cx) (c0 : Nat) (v1 : Int) (v2 : Int) (v3 : Int) (σ : Sg) (Q : Int → Sg → Prop) : Prop := VV X mX9_worthOf 4 [(0, .ref (cxA X c0)), (1, .int (gI v1)), (2, .int (gI v2)), (3, .int (gI v3))] [] σ Q
def GX9_worthOf_39 (X : Cx) (c0 : Nat) (v1 : Int) (v2 : Int) (v3 : Int) (s0 : Int) (s1 : Int) (σ : Sg) (Q : Int → Sg → Prop) : Prop := VV X mX9_worthOf 39 [(0, .ref (cxA X c0)), (1, .int (gI v1)), (2, .int (gI v2)), (3, .int (gI v3))] [.int (gI s0), .int (gI s1)] σ Q
set_option maxHeartbeats 2000000 in
set_option maxRecDepth 20000 in
theorem rX9_worthOf_0 {X : Cx} {c0 : Nat} {v1 : Int} (hc0 : isWay c0) {σ : Sg} {Q : Int → Sg → Prop} (h : Rng σ → GX9_worthOf_4 X c0 v1 0 0 σ Q) : GX9_worthOf_0 X c0 v1 σ Q := by
  unfold GX9_worthOf_0
  refine V_rng (fun hR0 => ?_)
  have h := h hR0
  refine V_iconst dX9_worthOf_0 ?_
  refine V_istore_n (L' := [(2, .int (gI 0)), (0, .ref (cxA X c0)), (1, .int (gI v1))]) rfl (by decide) rfl dX9_worthOf_1 ?_
  refine V_iconst dX9_worthOf_2 ?_
  refine V_istore_n (L' := [(3, .int (gI 0)), (2, .int (gI 0)), (0, .ref (cxA X c0)), (1, .int (gI v1))]) rfl (by decide) rfl dX9_worthOf_3 ?_
  exact V_sub [2, 3, 1, 0] rfl h
set_option maxHeartbeats 2000000 in
set_option maxRecDepth 20000 in
theorem rX9_worthOf_4 {X : Cx} {c0 : Nat} {v1 : Int} {v2 : Int} {v3 : Int} (hc0 : isWay c0) {σ : Sg} {Q : Int → Sg → Prop} (h : Rng σ → (inI v3) ∧ (inI v1) ∧ ((v1 ≤ v3 → Q v2 σ) ∧ (v3 < v1 → (inI v3) ∧ ((8 ≤ v3 → Q v2 σ) ∧ (v3 < 8 → KX9_isReached X c0 (zshl 1 v3) σ (fun r6 σ7 => Rng σ7 → (inI r6) ∧ ((r6 = 0 → GX9_worthOf_39 X c0 v1 v2 v3 50 v2 σ7 Q) ∧ (¬ r6 = 0 → (0 ≤ zshl 1 v3 ∧ zshl 1 v3 < 256) ∧ GX9_worthOf_39 X c0 v1 v2 v3 (σ7 (c0 + 1) ((zshl 1 v3).toNat)) v2 σ7 Q)))))))) : GX9_worthOf_4 X c0 v1 v2 v3 σ Q := by
  unfold GX9_worthOf_4
  refine V_rng (fun hR0 => ?_)
  have h := h hR0
  refine V_iload_n 3 rfl rfl dX9_worthOf_4 ?_
  refine V_iload_n 1 rfl rfl dX9_worthOf_5 ?_
  obtain ⟨g1, h⟩ := h
  obtain ⟨g2, h⟩ := h
  refine V_icmp_ge (tgt := 47) dX9_worthOf_6 (by decide) g1 g2 (fun q3 => ?_) (fun q3 => ?_)
  · have h := h.1 q3
    refine V_iload_n 2 rfl rfl dX9_worthOf_47 ?_
    exact V_iret rfl (fun _ q => by cases q) (vp_nar_int _) dX9_worthOf_48 h
  · have h := h.2 q3
    refine V_iload_n 3 rfl rfl dX9_worthOf_9 ?_
    refine V_bipush (v := 8) (by decide) dX9_worthOf_10 ?_
    obtain ⟨g4, h⟩ := h
    refine V_icmp_ge (tgt := 47) dX9_worthOf_12 (by decide) g4 (by decide) (fun q5 => ?_) (fun q5 => ?_)
    · have h := h.1 q5
      refine V_iload_n 2 rfl rfl dX9_worthOf_47 ?_
      exact V_iret rfl (fun _ q => by cases q) (vp_nar_int _) dX9_worthOf_48 h
    · have h := h.2 q5
      refine V_iload_n 2 rfl rfl dX9_worthOf_15 ?_
      refine V_aload_n 0 rfl rfl dX9_worthOf_16 ?_
      refine V_iconst dX9_worthOf_17 ?_
      refine V_iload_n 3 rfl rfl dX9_worthOf_18 ?_
      refine V_ishl dX9_worthOf_19 ?_
      refine V_cV (M' := mX9_isReached) (As := [.int (gI (zshl 1 v3))]) (fun r => [.int (gI r), .int (gI v2)]) ok_X9_isReached ok2_X9_isReached hc0.1 rfl (by decide) rfl rfl (Nat.le_of_ble_eq_true rfl) dX9_worthOf_20 lk_RX9_m38 (by decide) (fun _ => rfl) h (fun r6 σ7 h => ?_)
      refine V_rng (fun hR8 => ?_)
      have h := h hR8
      obtain ⟨g9, h⟩ := h
      refine V_if_eq (tgt := 37) dX9_worthOf_23 (by decide) g9 (fun q10 => ?_) (fun q10 => ?_)
      · have h := h.1 q10
        refine V_bipush (v := 50) (by decide) dX9_worthOf_37 ?_
        exact h
      · have h := h.2 q10
        refine V_aload_n 0 rfl rfl dX9_worthOf_26 ?_
        refine V_getR (f := 0) ci_X9 hc0.1 rfl (by decide) (c1 := (c0 + 1)) rfl dX9_worthOf_27 lk_RX9_f9 ?_
        refine V_iconst dX9_worthOf_30 ?_
        refine V_iload_n 3 rfl rfl dX9_worthOf_31 ?_
        refine V_ishl dX9_worthOf_32 ?_
        obtain ⟨g11, h⟩ := h
        refine V_iald hc0.2.1 (by decide) g11 dX9_worthOf_33 ?_
        refine V_goto (tgt := 39) dX9_worthOf_34 (by decide) ?_
        exact h
set_option maxHeartbeats 2000000 in
set_option maxRecDepth 20000 in
theorem rX9_worthOf_39 {X : Cx} {c0 : Nat} {v1 : Int} {v2 : Int} {v3 : Int} {s0 : Int} {s1 : Int} (hc0 : isWay c0) {σ : Sg} {Q : Int → Sg → Prop} (h : Rng σ → GX9_worthOf_4 X c0 v1 (s1 + s0) (v3 + 1) σ Q) : GX9_worthOf_39 X c0 v1 v2 v3 s0 s1 σ Q := by
  unfold GX9_worthOf_39
  refine V_rng (fun hR0 => ?_)
  have h := h hR0
  refine V_iadd dX9_worthOf_39 ?_
  refine V_istore_n (L' := [(2, .int (gI (s1 + s0))), (0, .ref (cxA X c0)), (1, .int (gI v1)), (3, .int (gI v3))]) rfl (by decide) rfl dX9_worthOf_40 ?_
  refine V_iinc (L' := [(3, .int (gI (v3 + 1))), (2, .int (gI (s1 + s0))), (0, .ref (cxA X c0)), (1, .int (gI v1))]) 3 rfl (by decide) rfl dX9_worthOf_41 ?_
  refine V_goto (tgt := 4) dX9_worthOf_44 (by decide) ?_
  exact V_sub [2, 3, 1, 0] rfl h
theorem eX9_worthOf {X : Cx} {c0 : Nat} {v1 : Int} {σ : Sg} {Q : Int → Sg → Prop} (h : GX9_worthOf_0 X c0 v1 σ Q) : KX9_worthOf X c0 v1 σ Q := V_enter (by decide) (Nat.le_of_ble_eq_true rfl) rfl h
def GX0_tryMark_0 (X : Cx) (v3 : Int) (v4 : Int) (σ : Sg) (Q : Int → Sg → Prop) : Prop := VV X mX0_tryMark 0 [(0, .ref (cxA X 49)), (1, .ref (cxA X 1)), (2, .ref (cxA X 11)), (3, .int (gI v3)), (4, .int (gI v4))] [] σ Q
def GX0_tryMark_98 (X : Cx) (v3 : Int) (v4 : Int) (v6 : Int) (σ : Sg) (Q : Int → Sg → Prop) : Prop := VV X mX0_tryMark 98 [(0, .ref (cxA X 49)), (1, .ref (cxA X 1)), (2, .ref (cxA X 11)), (3, .int (gI v3)), (4, .int (gI v4)), (5, .ref (cxA X 6)), (6, .int (gI v6))] [] σ Q
set_option maxHeartbeats 2000000 in
set_option maxRecDepth 20000 in
theorem rX0_tryMark_0 {X : Cx} {v3 : Int} {v4 : Int} {σ : Sg} {Q : Int → Sg → Prop} (h : Rng σ → KX5_has X v3 σ (fun r1 σ2 => Rng σ2 → (inI r1) ∧ ((r1 = 0 → Q 0 σ2) ∧ (¬ r1 = 0 → (0 ≤ v3 ∧ v3 < 8) ∧ ((¬ (zand (zshr (σ2 6 v3.toNat) v4) 1) = 1 → (0 ≤ v3 ∧ v3 < 8) ∧ (0 ≤ v3 ∧ v3 < 8) ∧ KX9_fill X 50 (σ2 49 1) 1 (up2 σ2 6 v3.toNat (zor (σ2 6 v3.toNat) (zshl 1 v4))) (fun r10 σ11 => Rng σ11 → (0 ≤ v3 ∧ v3 < 8) ∧ (0 ≤ v3 ∧ v3 < 8) ∧ KX9_worthOf X 50 (σ11 1 1) (up2 σ11 6 v3.toNat (zand (σ11 6 v3.toNat) (zxor (zshl 1 v4) ((-1))))) (fun r15 σ16 => Rng σ16 → (((σ16 49 4) = ((-1)) → GX0_tryMark_98 X v3 v4 r15 σ16 Q) ∧ (¬ (σ16 49 4) = ((-1)) → (inI r15) ∧ (((σ16 49 3) ≤ r15 → Q 0 σ16) ∧ (r15 < (σ16 49 3) → GX0_tryMark_98 X v3 v4 r15 σ16 Q))))))) ∧ ((zand (zshr (σ2 6 v3.toNat) v4) 1) = 1 → Q 0 σ2)))))) : GX0_tryMark_0 X v3 v4 σ Q := by
  unfold GX0_tryMark_0
  refine V_rng (fun hR0 => ?_)
  have h := h hR0
  refine V_aload_n 1 rfl rfl dX0_tryMark_0 ?_
  refine V_getR (f := 0) ci_X5 sh_1 rfl (by decide) (c1 := 2) rfl dX0_tryMark_1 lk_RX0_f46 ?_
  refine V_iconst dX0_tryMark_4 ?_
  refine V_aald (c1 := 6) sh_2 (by decide) (by decide) rfl dX0_tryMark_5 ?_
  refine V_astore (L' := [(5, .ref (cxA X 6)), (0, .ref (cxA X 49)), (1, .ref (cxA X 1)), (2, .ref (cxA X 11)), (3, .int (gI v3)), (4, .int (gI v4))]) (by decide) rfl dX0_tryMark_6 ?_
  refine V_aload_n 2 rfl rfl dX0_tryMark_8 ?_
  refine V_iload_n 4 rfl rfl dX0_tryMark_9 ?_
  refine V_cV (M' := mX5_has) (As := [.int (gI v3)]) (fun r => [.int (gI r)]) ok_X5_has ok2_X5_has sh_1 rfl (by decide) rfl rfl (Nat.le_of_ble_eq_true rfl) dX0_tryMark_10 lk_RX0_m50 (by decide) (fun _ => rfl) h (fun r1 σ2 h => ?_)
  refine V_rng (fun hR3 => ?_)
  have h := h hR3
  obtain ⟨g4, h⟩ := h
  refine V_if_eq (tgt := 29) dX0_tryMark_13 (by decide) g4 (fun q5 => ?_) (fun q5 => ?_)
  · have h := h.1 q5
    exact V_vret rfl dX0_tryMark_29 h
  · have h := h.2 q5
    refine V_aload 0 rfl dX0_tryMark_16 ?_
    refine V_iload_n 4 rfl rfl dX0_tryMark_18 ?_
    obtain ⟨g6, h⟩ := h
    refine V_iald sh_6 (by decide) g6 dX0_tryMark_19 ?_
    refine V_iload 5 rfl dX0_tryMark_20 ?_
    refine V_ishr dX0_tryMark_22 ?_
    refine V_iconst dX0_tryMark_23 ?_
    refine V_iand dX0_tryMark_24 ?_
    refine V_iconst dX0_tryMark_25 ?_
    refine V_icmp_ne (tgt := 30) dX0_tryMark_26 (by decide) (inI_z _) (by decide) (fun q7 => ?_) (fun q7 => ?_)
    · have h := h.1 q7
      refine V_aload 0 rfl dX0_tryMark_30 ?_
      refine V_iload_n 4 rfl rfl dX0_tryMark_32 ?_
      refine V_dup2 rfl rfl dX0_tryMark_33 ?_
      obtain ⟨g8, h⟩ := h
      refine V_iald sh_6 (by decide) g8 dX0_tryMark_34 ?_
      refine V_iconst dX0_tryMark_35 ?_
      refine V_iload 5 rfl dX0_tryMark_36 ?_
      refine V_ishl dX0_tryMark_38 ?_
      refine V_ior dX0_tryMark_39 ?_
      obtain ⟨g9, h⟩ := h
      refine V_iast sh_6 (by decide) g9 (inI_z _) dX0_tryMark_40 ?_
      refine V_aload_n 1 rfl rfl dX0_tryMark_41 ?_
      refine V_getR (f := 0) ci_X0 sh_49 rfl (by decide) (c1 := 50) rfl dX0_tryMark_42 lk_RX0_f12 ?_
      refine V_aload_n 2 rfl rfl dX0_tryMark_45 ?_
      refine V_aload_n 3 rfl rfl dX0_tryMark_46 ?_
      refine V_aload_n 1 rfl rfl dX0_tryMark_47 ?_
      refine V_getI (f := 1) ci_X0 sh_49 rfl (by decide) dX0_tryMark_48 lk_RX0_f22 ?_
      refine V_iconst dX0_tryMark_51 ?_
      refine V_cV (M' := mX9_fill) (As := [.ref (cxA X 1), .ref (cxA X 11), .int (gI (σ2 49 1)), .int (gI 1)]) (fun _ => []) ok_X9_fill ok2_X9_fill sh_50 rfl (by decide) rfl rfl (Nat.le_of_ble_eq_true rfl) dX0_tryMark_52 lk_RX0_m54 (by decide) (fun _ => rfl) h (fun r10 σ11 h => ?_)
      refine V_rng (fun hR12 => ?_)
      have h := h hR12
      refine V_aload 0 rfl dX0_tryMark_55 ?_
      refine V_iload_n 4 rfl rfl dX0_tryMark_57 ?_
      refine V_dup2 rfl rfl dX0_tryMark_58 ?_
      obtain ⟨g13, h⟩ := h
      refine V_iald sh_6 (by decide) g13 dX0_tryMark_59 ?_
      refine V_iconst dX0_tryMark_60 ?_
      refine V_iload 5 rfl dX0_tryMark_61 ?_
      refine V_ishl dX0_tryMark_63 ?_
      refine V_iconst dX0_tryMark_64 ?_
      refine V_ixor dX0_tryMark_65 ?_
      refine V_iand dX0_tryMark_66 ?_
      obtain ⟨g14, h⟩ := h
      refine V_iast sh_6 (by decide) g14 (inI_z _) dX0_tryMark_67 ?_
      refine V_aload_n 1 rfl rfl dX0_tryMark_68 ?_
      refine V_getR (f := 0) ci_X0 sh_49 rfl (by decide) (c1 := 50) rfl dX0_tryMark_69 lk_RX0_f12 ?_
      refine V_aload_n 2 rfl rfl dX0_tryMark_72 ?_
      refine V_getI (f := 1) ci_X5 sh_1 rfl (by decide) dX0_tryMark_73 lk_RX0_f31 ?_
      refine V_cV (M' := mX9_worthOf) (As := [.int (gI (σ11 1 1))]) (fun r => [.int (gI r)]) ok_X9_worthOf ok2_X9_worthOf sh_50 rfl (by decide) rfl rfl (Nat.le_of_ble_eq_true rfl) dX0_tryMark_76 lk_RX0_m58 (by decide) (fun _ => rfl) h (fun r15 σ16 h => ?_)
      refine V_rng (fun hR17 => ?_)
      have h := h hR17
      refine V_istore (L' := [(6, .int (gI r15)), (5, .ref (cxA X 6)), (0, .ref (cxA X 49)), (1, .ref (cxA X 1)), (2, .ref (cxA X 11)), (3, .int (gI v3)), (4, .int (gI v4))]) (by decide) rfl dX0_tryMark_79 ?_
      refine V_aload_n 2 rfl rfl dX0_tryMark_81 ?_
      refine V_getI (f := 4) ci_X0 sh_49 rfl (by decide) dX0_tryMark_82 lk_RX0_f28 ?_
      refine V_iconst dX0_tryMark_85 ?_
      refine V_icmp_eq (tgt := 98) dX0_tryMark_86 (by decide) (show inI (σ16 49 4) from (inI_sh hR17 sh_49 (by decide))) (by decide) (fun q18 => ?_) (fun q18 => ?_)
      · have h := h.1 q18
        exact V_sub [2, 3, 4, 5, 6, 1, 0] rfl h
      · have h := h.2 q18
        refine V_iload 0 rfl dX0_tryMark_89 ?_
        refine V_aload_n 2 rfl rfl dX0_tryMark_91 ?_
        refine V_getI (f := 3) ci_X0 sh_49 rfl (by decide) dX0_tryMark_92 lk_RX0_f25 ?_
        obtain ⟨g19, h⟩ := h
        refine V_icmp_ge (tgt := 114) dX0_tryMark_95 (by decide) g19 (show inI (σ16 49 3) from (inI_sh hR17 sh_49 (by decide))) (fun q20 => ?_) (fun q20 => ?_)
        · have h := h.1 q20
          exact V_vret rfl dX0_tryMark_114 h
        · have h := h.2 q20
          exact V_sub [2, 3, 4, 5, 6, 1, 0] rfl h
    · have h := h.2 q7
      exact V_vret rfl dX0_tryMark_29 h
set_option maxHeartbeats 2000000 in
set_option maxRecDepth 20000 in
theorem rX0_tryMark_98 {X : Cx} {v3 : Int} {v4 : Int} {v6 : Int} {σ : Sg} {Q : Int → Sg → Prop} (h : Rng σ → (inI v6) ∧ (inI ((4 * v3) + v4)) ∧ Q 0 (up2 (up2 σ 49 3 v6) 49 4 ((4 * v3) + v4))) : GX0_tryMark_98 X v3 v4 v6 σ Q := by
  unfold GX0_tryMark_98
  refine V_rng (fun hR0 => ?_)
  have h := h hR0
  refine V_aload_n 0 rfl rfl dX0_tryMark_98 ?_
  refine V_iload 6 rfl dX0_tryMark_99 ?_
  obtain ⟨g1, h⟩ := h
  refine V_putI (f := 3) ci_X0 sh_49 rfl (by decide) rfl rfl g1 dX0_tryMark_101 lk_RX0_f25 ?_
  refine V_aload_n 0 rfl rfl dX0_tryMark_104 ?_
  refine V_iconst dX0_tryMark_105 ?_
  refine V_iload_n 3 rfl rfl dX0_tryMark_106 ?_
  refine V_imul dX0_tryMark_107 ?_
  refine V_iload 4 rfl dX0_tryMark_108 ?_
  refine V_iadd dX0_tryMark_110 ?_
  obtain ⟨g2, h⟩ := h
  refine V_putI (f := 4) ci_X0 sh_49 rfl (by decide) rfl rfl g2 dX0_tryMark_111 lk_RX0_f28 ?_
  exact V_vret rfl dX0_tryMark_114 h
theorem eX0_tryMark {X : Cx} {v3 : Int} {v4 : Int} {σ : Sg} {Q : Int → Sg → Prop} (h : GX0_tryMark_0 X v3 v4 σ Q) : KX0_tryMark X v3 v4 σ Q := V_enter (by decide) (Nat.le_of_ble_eq_true rfl) rfl h
def GX0_find_0 (X : Cx) (v3 : Int) (σ : Sg) (Q : Int → Sg → Prop) : Prop := VV X mX0_find 0 [(0, .ref (cxA X 49)), (1, .ref (cxA X 1)), (2, .ref (cxA X 11)), (3, .int (gI v3))] [] σ Q
def GX0_find_18 (X : Cx) (v3 : Int) (v4 : Int) (σ : Sg) (Q : Int → Sg → Prop) : Prop := VV X mX0_find 18 [(0, .ref (cxA X 49)), (1, .ref (cxA X 1)), (2, .ref (cxA X 11)), (3, .int (gI v3)), (4, .int (gI v4))] [] σ Q
def GX0_find_37 (X : Cx) (v3 : Int) (v4 : Int) (v5 : Int) (σ : Sg) (Q : Int → Sg → Prop) : Prop := VV X mX0_find 37 [(0, .ref (cxA X 49)), (1, .ref (cxA X 1)), (2, .ref (cxA X 11)), (3, .int (gI v3)), (4, .int (gI v4)), (5, .int (gI v5))] [] σ Q
def GX0_find_59 (X : Cx) (v3 : Int) (v4 : Int) (v5 : Int) (σ : Sg) (Q : Int → Sg → Prop) : Prop := VV X mX0_find 59 [(0, .ref (cxA X 49)), (1, .ref (cxA X 1)), (2, .ref (cxA X 11)), (3, .int (gI v3)), (4, .int (gI v4)), (5, .int (gI v5))] [] σ Q
def GX0_find_69 (X : Cx) (v3 : Int) (v4 : Int) (v5 : Int) (σ : Sg) (Q : Int → Sg → Prop) : Prop := VV X mX0_find 69 [(0, .ref (cxA X 49)), (1, .ref (cxA X 1)), (2, .ref (cxA X 11)), (3, .int (gI v3)), (4, .int (gI v4)), (5, .int (gI v5))] [] σ Q
set_option maxHeartbeats 2000000 in
set_option maxRecDepth 20000 in
theorem rX0_find_0 {X : Cx} {v3 : Int} {σ : Sg} {Q : Int → Sg → Prop} (h : Rng σ → (inI v3) ∧ GX0_find_18 X v3 0 (up2 (up2 (up2 σ 49 1 v3) 49 3 ((-1))) 49 4 ((-1))) Q) : GX0_find_0 X v3 σ Q := by
  unfold GX0_find_0
  refine V_rng (fun hR0 => ?_)
  have h := h hR0
  refine V_aload_n 0 rfl rfl dX0_find_0 ?_
  refine V_iload_n 3 rfl rfl dX0_find_1 ?_
  obtain ⟨g1, h⟩ := h
  refine V_putI (f := 1) ci_X0 sh_49 rfl (by decide) rfl rfl g1 dX0_find_2 lk_RX0_f22 ?_
  refine V_aload_n 0 rfl rfl dX0_find_5 ?_
  refine V_iconst dX0_find_6 ?_
  refine V_putI (f := 3) ci_X0 sh_49 rfl (by decide) rfl rfl (by decide) dX0_find_7 lk_RX0_f25 ?_
  refine V_aload_n 0 rfl rfl dX0_find_10 ?_
  refine V_iconst dX0_find_11 ?_
  refine V_putI (f := 4) ci_X0 sh_49 rfl (by decide) rfl rfl (by decide) dX0_find_12 lk_RX0_f28 ?_
  refine V_iconst dX0_find_15 ?_
  refine V_istore (L' := [(4, .int (gI 0)), (0, .ref (cxA X 49)), (1, .ref (cxA X 1)), (2, .ref (cxA X 11)), (3, .int (gI v3))]) (by decide) rfl dX0_find_16 ?_
  exact V_sub [1, 2, 3, 4, 0] rfl h
set_option maxHeartbeats 2000000 in
set_option maxRecDepth 20000 in
theorem rX0_find_18 {X : Cx} {v3 : Int} {v4 : Int} {σ : Sg} {Q : Int → Sg → Prop} (h : Rng σ → (inI v4) ∧ (((σ 1 1) ≤ v4 → Q 0 σ) ∧ (v4 < (σ 1 1) → (inI v4) ∧ ((8 ≤ v4 → Q 0 σ) ∧ (v4 < 8 → GX0_find_37 X v3 v4 0 σ Q))))) : GX0_find_18 X v3 v4 σ Q := by
  unfold GX0_find_18
  refine V_rng (fun hR0 => ?_)
  have h := h hR0
  refine V_iload 4 rfl dX0_find_18 ?_
  refine V_aload_n 1 rfl rfl dX0_find_20 ?_
  refine V_getI (f := 1) ci_X5 sh_1 rfl (by decide) dX0_find_21 lk_RX0_f31 ?_
  obtain ⟨g1, h⟩ := h
  refine V_icmp_ge (tgt := 81) dX0_find_24 (by decide) g1 (show inI (σ 1 1) from (inI_sh hR0 sh_1 (by decide))) (fun q2 => ?_) (fun q2 => ?_)
  · have h := h.1 q2
    exact V_vret rfl dX0_find_81 h
  · have h := h.2 q2
    refine V_iload 4 rfl dX0_find_27 ?_
    refine V_bipush (v := 8) (by decide) dX0_find_29 ?_
    obtain ⟨g3, h⟩ := h
    refine V_icmp_ge (tgt := 81) dX0_find_31 (by decide) g3 (by decide) (fun q4 => ?_) (fun q4 => ?_)
    · have h := h.1 q4
      exact V_vret rfl dX0_find_81 h
    · have h := h.2 q4
      refine V_iconst dX0_find_34 ?_
      refine V_istore (L' := [(5, .int (gI 0)), (0, .ref (cxA X 49)), (1, .ref (cxA X 1)), (2, .ref (cxA X 11)), (3, .int (gI v3)), (4, .int (gI v4))]) (by decide) rfl dX0_find_35 ?_
      exact V_sub [1, 2, 3, 4, 5, 0] rfl h
set_option maxHeartbeats 2000000 in
set_option maxRecDepth 20000 in
theorem rX0_find_37 {X : Cx} {v3 : Int} {v4 : Int} {v5 : Int} {σ : Sg} {Q : Int → Sg → Prop} (h : Rng σ → (inI v5) ∧ ((3 ≤ v5 → GX0_find_18 X v3 (v4 + 1) σ Q) ∧ (v5 < 3 → (((σ 49 4) = ((-1)) → GX0_find_59 X v3 v4 v5 σ Q) ∧ (¬ (σ 49 4) = ((-1)) → KX10_isKnown X v3 3 σ (fun r4 σ5 => Rng σ5 → (inI r4) ∧ ((r4 = 0 → GX0_find_69 X v3 v4 v5 σ5 Q) ∧ (¬ r4 = 0 → GX0_find_59 X v3 v4 v5 σ5 Q)))))))) : GX0_find_37 X v3 v4 v5 σ Q := by
  unfold GX0_find_37
  refine V_rng (fun hR0 => ?_)
  have h := h hR0
  refine V_iload 5 rfl dX0_find_37 ?_
  refine V_iconst dX0_find_39 ?_
  obtain ⟨g1, h⟩ := h
  refine V_icmp_ge (tgt := 75) dX0_find_40 (by decide) g1 (by decide) (fun q2 => ?_) (fun q2 => ?_)
  · have h := h.1 q2
    refine V_iinc (L' := [(4, .int (gI (v4 + 1))), (0, .ref (cxA X 49)), (1, .ref (cxA X 1)), (2, .ref (cxA X 11)), (3, .int (gI v3)), (5, .int (gI v5))]) 4 rfl (by decide) rfl dX0_find_75 ?_
    refine V_goto (tgt := 18) dX0_find_78 (by decide) ?_
    exact V_sub [1, 2, 3, 4, 0] rfl h
  · have h := h.2 q2
    refine V_aload_n 0 rfl rfl dX0_find_43 ?_
    refine V_getI (f := 4) ci_X0 sh_49 rfl (by decide) dX0_find_44 lk_RX0_f28 ?_
    refine V_iconst dX0_find_47 ?_
    refine V_icmp_eq (tgt := 59) dX0_find_48 (by decide) (show inI (σ 49 4) from (inI_sh hR0 sh_49 (by decide))) (by decide) (fun q3 => ?_) (fun q3 => ?_)
    · have h := h.1 q3
      exact h
    · have h := h.2 q3
      refine V_iload_n 3 rfl rfl dX0_find_51 ?_
      refine V_iconst dX0_find_52 ?_
      refine V_cS (M' := mX10_isKnown) (As := [.int (gI v3), .int (gI 3)]) (fun r => [.int (gI r)]) ok_X10_isKnown ok2_X10_isKnown rfl rfl (Nat.le_of_ble_eq_true rfl) dX0_find_53 lk_RX0_m38 (by decide) (fun _ => rfl) h (fun r4 σ5 h => ?_)
      refine V_rng (fun hR6 => ?_)
      have h := h hR6
      obtain ⟨g7, h⟩ := h
      refine V_if_eq (tgt := 69) dX0_find_56 (by decide) g7 (fun q8 => ?_) (fun q8 => ?_)
      · have h := h.1 q8
        exact h
      · have h := h.2 q8
        exact h
set_option maxHeartbeats 2000000 in
set_option maxRecDepth 20000 in
theorem rX0_find_59 {X : Cx} {v3 : Int} {v4 : Int} {v5 : Int} {σ : Sg} {Q : Int → Sg → Prop} (h : Rng σ → KX0_tryMark X v4 v5 σ (fun r1 σ2 => Rng σ2 → GX0_find_69 X v3 v4 v5 σ2 Q)) : GX0_find_59 X v3 v4 v5 σ Q := by
  unfold GX0_find_59
  refine V_rng (fun hR0 => ?_)
  have h := h hR0
  refine V_aload_n 0 rfl rfl dX0_find_59 ?_
  refine V_aload_n 1 rfl rfl dX0_find_60 ?_
  refine V_aload_n 2 rfl rfl dX0_find_61 ?_
  refine V_iload 4 rfl dX0_find_62 ?_
  refine V_iload 5 rfl dX0_find_64 ?_
  refine V_cV (M' := mX0_tryMark) (As := [.ref (cxA X 1), .ref (cxA X 11), .int (gI v4), .int (gI v5)]) (fun _ => []) ok_X0_tryMark ok2_X0_tryMark sh_49 rfl (by decide) rfl rfl (Nat.le_of_ble_eq_true rfl) dX0_find_66 lk_RX0_m42 (by decide) (fun _ => rfl) h (fun r1 σ2 h => ?_)
  refine V_rng (fun hR3 => ?_)
  have h := h hR3
  exact h
set_option maxHeartbeats 2000000 in
set_option maxRecDepth 20000 in
theorem rX0_find_69 {X : Cx} {v3 : Int} {v4 : Int} {v5 : Int} {σ : Sg} {Q : Int → Sg → Prop} (h : Rng σ → GX0_find_37 X v3 v4 (v5 + 1) σ Q) : GX0_find_69 X v3 v4 v5 σ Q := by
  unfold GX0_find_69
  refine V_rng (fun hR0 => ?_)
  have h := h hR0
  refine V_iinc (L' := [(5, .int (gI (v5 + 1))), (0, .ref (cxA X 49)), (1, .ref (cxA X 1)), (2, .ref (cxA X 11)), (3, .int (gI v3)), (4, .int (gI v4))]) 5 rfl (by decide) rfl dX0_find_69 ?_
  refine V_goto (tgt := 37) dX0_find_72 (by decide) ?_
  exact V_sub [1, 2, 3, 4, 5, 0] rfl h
theorem eX0_find {X : Cx} {v3 : Int} {σ : Sg} {Q : Int → Sg → Prop} (h : GX0_find_0 X v3 σ Q) : KX0_find X v3 σ Q := V_enter (by decide) (Nat.le_of_ble_eq_true rfl) rfl h
def GX9_codeAt_0 (X : Cx) (c0 : Nat) (v1 : Int) (v2 : Int) (σ : Sg) (Q : Int → Sg → Prop) : Prop := VV X mX9_codeAt 0 [(0, .ref (cxA X c0)), (1, .int (gI v1)), (2, .int (gI v2))] [] σ Q
def GX9_codeAt_12 (X : Cx) (c0 : Nat) (v1 : Int) (v2 : Int) (v3 : Int) (v4 : Int) (v5 : Int) (σ : Sg) (Q : Int → Sg → Prop) : Prop := VV X mX9_codeAt 12 [(0, .ref (cxA X c0)), (1, .int (gI v1)), (2, .int (gI v2)), (3, .int (gI v3)), (4, .int (gI v4)), (5, .int (gI v5))] [] σ Q
def GX9_codeAt_84 (X : Cx) (c0 : Nat) (v1 : Int) (v2 : Int) (v3 : Int) (v4 : Int) (v5 : Int) (v6 : Int) (σ : Sg) (Q : Int → Sg → Prop) : Prop := VV X mX9_codeAt 84 [(0, .ref (cxA X c0)), (1, .int (gI v1)), (2, .int (gI v2)), (3, .int (gI v3)), (4, .int (gI v4)), (5, .int (gI v5)), (6, .int (gI v6))] [] σ Q
set_option maxHeartbeats 2000000 in
set_option maxRecDepth 20000 in
theorem rX9_codeAt_0 {X : Cx} {c0 : Nat} {v1 : Int} {v2 : Int} (hc0 : isWay c0) {σ : Sg} {Q : Int → Sg → Prop} (h : Rng σ → GX9_codeAt_12 X c0 v1 v2 (zand v1 255) v2 0 σ Q) : GX9_codeAt_0 X c0 v1 v2 σ Q := by
  unfold GX9_codeAt_0
  refine V_rng (fun hR0 => ?_)
  have h := h hR0
  refine V_iload_n 1 rfl rfl dX9_codeAt_0 ?_
  refine V_sipush (v := 255) (by decide) dX9_codeAt_1 ?_
  refine V_iand dX9_codeAt_4 ?_
  refine V_istore_n (L' := [(3, .int (gI (zand v1 255))), (0, .ref (cxA X c0)), (1, .int (gI v1)), (2, .int (gI v2))]) rfl (by decide) rfl dX9_codeAt_5 ?_
  refine V_iload_n 3 rfl rfl dX9_codeAt_6 ?_
  refine V_istore (L' := [(4, .int (gI v2)), (3, .int (gI (zand v1 255))), (0, .ref (cxA X c0)), (1, .int (gI v1)), (2, .int (gI v2))]) (by decide) rfl dX9_codeAt_7 ?_
  refine V_iconst dX9_codeAt_9 ?_
  refine V_istore (L' := [(5, .int (gI 0)), (4, .int (gI v2)), (3, .int (gI (zand v1 255))), (0, .ref (cxA X c0)), (1, .int (gI v1)), (2, .int (gI v2))]) (by decide) rfl dX9_codeAt_10 ?_
  exact V_sub [3, 4, 5, 2, 1, 0] rfl h
set_option maxHeartbeats 2000000 in
set_option maxRecDepth 20000 in
theorem rX9_codeAt_12 {X : Cx} {c0 : Nat} {v1 : Int} {v2 : Int} {v3 : Int} {v4 : Int} {v5 : Int} (hc0 : isWay c0) {σ : Sg} {Q : Int → Sg → Prop} (h : Rng σ → (inI v5) ∧ ((1000 ≤ v5 → (0 ≤ v3 ∧ v3 < 256) ∧ Q (zshr (σ (c0 + 3) v3.toNat) 16) σ) ∧ (v5 < 1000 → (inI v4) ∧ ((v4 ≤ 0 → (0 ≤ v3 ∧ v3 < 256) ∧ Q (zshr (σ (c0 + 3) v3.toNat) 16) σ) ∧ (0 < v4 → (0 ≤ v3 ∧ v3 < 256) ∧ (0 ≤ zand (zshr (σ (c0 + 3) v3.toNat) 8) 255 ∧ zand (zshr (σ (c0 + 3) v3.toNat) 8) 255 < 256) ∧ (inI (v4 + (-1))) ∧ (((σ (c0 + 2) ((zand (zshr (σ (c0 + 3) v3.toNat) 8) 255).toNat)) ≤ (v4 + (-1)) → (0 ≤ zand (zshr (σ (c0 + 3) v3.toNat) 8) 255 ∧ zand (zshr (σ (c0 + 3) v3.toNat) 8) 255 < 256) ∧ (0 ≤ v3 ∧ v3 < 256) ∧ GX9_codeAt_84 X c0 v1 v2 (zand (σ (c0 + 3) v3.toNat) 255) ((v4 + (-1)) - (σ (c0 + 2) ((zand (zshr (σ (c0 + 3) v3.toNat) 8) 255).toNat))) v5 (zand (zshr (σ (c0 + 3) v3.toNat) 8) 255) σ Q) ∧ ((v4 + (-1)) < (σ (c0 + 2) ((zand (zshr (σ (c0 + 3) v3.toNat) 8) 255).toNat)) → GX9_codeAt_84 X c0 v1 v2 (zand (zshr (σ (c0 + 3) v3.toNat) 8) 255) (v4 + (-1)) v5 (zand (zshr (σ (c0 + 3) v3.toNat) 8) 255) σ Q))))))) : GX9_codeAt_12 X c0 v1 v2 v3 v4 v5 σ Q := by
  unfold GX9_codeAt_12
  refine V_rng (fun hR0 => ?_)
  have h := h hR0
  refine V_iload 5 rfl dX9_codeAt_12 ?_
  refine V_sipush (v := 1000) (by decide) dX9_codeAt_14 ?_
  obtain ⟨g1, h⟩ := h
  refine V_icmp_ge (tgt := 90) dX9_codeAt_17 (by decide) g1 (by decide) (fun q2 => ?_) (fun q2 => ?_)
  · have h := h.1 q2
    refine V_aload_n 0 rfl rfl dX9_codeAt_90 ?_
    refine V_getR (f := 2) ci_X9 hc0.1 rfl (by decide) (c1 := (c0 + 3)) rfl dX9_codeAt_91 lk_RX9_f18 ?_
    refine V_iload_n 3 rfl rfl dX9_codeAt_94 ?_
    obtain ⟨g3, h⟩ := h
    refine V_iald hc0.2.2.2.1 (by decide) g3 dX9_codeAt_95 ?_
    refine V_bipush (v := 16) (by decide) dX9_codeAt_96 ?_
    refine V_ishr dX9_codeAt_98 ?_
    exact V_iret rfl (fun _ q => by cases q) (vp_nar_int _) dX9_codeAt_99 h
  · have h := h.2 q2
    refine V_iload 4 rfl dX9_codeAt_20 ?_
    obtain ⟨g4, h⟩ := h
    refine V_if_le (tgt := 90) dX9_codeAt_22 (by decide) g4 (fun q5 => ?_) (fun q5 => ?_)
    · have h := h.1 q5
      refine V_aload_n 0 rfl rfl dX9_codeAt_90 ?_
      refine V_getR (f := 2) ci_X9 hc0.1 rfl (by decide) (c1 := (c0 + 3)) rfl dX9_codeAt_91 lk_RX9_f18 ?_
      refine V_iload_n 3 rfl rfl dX9_codeAt_94 ?_
      obtain ⟨g6, h⟩ := h
      refine V_iald hc0.2.2.2.1 (by decide) g6 dX9_codeAt_95 ?_
      refine V_bipush (v := 16) (by decide) dX9_codeAt_96 ?_
      refine V_ishr dX9_codeAt_98 ?_
      exact V_iret rfl (fun _ q => by cases q) (vp_nar_int _) dX9_codeAt_99 h
    · have h := h.2 q5
      refine V_aload_n 0 rfl rfl dX9_codeAt_25 ?_
      refine V_getR (f := 2) ci_X9 hc0.1 rfl (by decide) (c1 := (c0 + 3)) rfl dX9_codeAt_26 lk_RX9_f18 ?_
      refine V_iload_n 3 rfl rfl dX9_codeAt_29 ?_
      obtain ⟨g7, h⟩ := h
      refine V_iald hc0.2.2.2.1 (by decide) g7 dX9_codeAt_30 ?_
      refine V_bipush (v := 8) (by decide) dX9_codeAt_31 ?_
      refine V_ishr dX9_codeAt_33 ?_
      refine V_sipush (v := 255) (by decide) dX9_codeAt_34 ?_
      refine V_iand dX9_codeAt_37 ?_
      refine V_istore (L' := [(6, .int (gI (zand (zshr (σ (c0 + 3) v3.toNat) 8) 255))), (0, .ref (cxA X c0)), (1, .int (gI v1)), (2, .int (gI v2)), (3, .int (gI v3)), (4, .int (gI v4)), (5, .int (gI v5))]) (by decide) rfl dX9_codeAt_38 ?_
      refine V_iinc (L' := [(4, .int (gI (v4 + (-1)))), (6, .int (gI (zand (zshr (σ (c0 + 3) v3.toNat) 8) 255))), (0, .ref (cxA X c0)), (1, .int (gI v1)), (2, .int (gI v2)), (3, .int (gI v3)), (5, .int (gI v5))]) 5 rfl (by decide) rfl dX9_codeAt_40 ?_
      refine V_iload 0 rfl dX9_codeAt_43 ?_
      refine V_aload_n 2 rfl rfl dX9_codeAt_45 ?_
      refine V_getR (f := 1) ci_X9 hc0.1 rfl (by decide) (c1 := (c0 + 2)) rfl dX9_codeAt_46 lk_RX9_f15 ?_
      refine V_iload 1 rfl dX9_codeAt_49 ?_
      obtain ⟨g8, h⟩ := h
      refine V_iald hc0.2.2.1 (by decide) g8 dX9_codeAt_51 ?_
      obtain ⟨g9, h⟩ := h
      refine V_icmp_ge (tgt := 61) dX9_codeAt_52 (by decide) g9 (show inI (σ (c0 + 2) ((zand (zshr (σ (c0 + 3) v3.toNat) 8) 255).toNat)) from (inI_sh hR0 hc0.2.2.1 (by decide))) (fun q10 => ?_) (fun q10 => ?_)
      · have h := h.1 q10
        refine V_iload 0 rfl dX9_codeAt_61 ?_
        refine V_aload_n 2 rfl rfl dX9_codeAt_63 ?_
        refine V_getR (f := 1) ci_X9 hc0.1 rfl (by decide) (c1 := (c0 + 2)) rfl dX9_codeAt_64 lk_RX9_f15 ?_
        refine V_iload 1 rfl dX9_codeAt_67 ?_
        obtain ⟨g11, h⟩ := h
        refine V_iald hc0.2.2.1 (by decide) g11 dX9_codeAt_69 ?_
        refine V_isub dX9_codeAt_70 ?_
        refine V_istore (L' := [(4, .int (gI ((v4 + (-1)) - (σ (c0 + 2) ((zand (zshr (σ (c0 + 3) v3.toNat) 8) 255).toNat))))), (6, .int (gI (zand (zshr (σ (c0 + 3) v3.toNat) 8) 255))), (0, .ref (cxA X c0)), (1, .int (gI v1)), (2, .int (gI v2)), (3, .int (gI v3)), (5, .int (gI v5))]) (by decide) rfl dX9_codeAt_71 ?_
        refine V_aload_n 2 rfl rfl dX9_codeAt_73 ?_
        refine V_getR (f := 2) ci_X9 hc0.1 rfl (by decide) (c1 := (c0 + 3)) rfl dX9_codeAt_74 lk_RX9_f18 ?_
        refine V_iload_n 5 rfl rfl dX9_codeAt_77 ?_
        obtain ⟨g12, h⟩ := h
        refine V_iald hc0.2.2.2.1 (by decide) g12 dX9_codeAt_78 ?_
        refine V_sipush (v := 255) (by decide) dX9_codeAt_79 ?_
        refine V_iand dX9_codeAt_82 ?_
        refine V_istore_n (L' := [(3, .int (gI (zand (σ (c0 + 3) v3.toNat) 255))), (4, .int (gI ((v4 + (-1)) - (σ (c0 + 2) ((zand (zshr (σ (c0 + 3) v3.toNat) 8) 255).toNat))))), (6, .int (gI (zand (zshr (σ (c0 + 3) v3.toNat) 8) 255))), (0, .ref (cxA X c0)), (1, .int (gI v1)), (2, .int (gI v2)), (5, .int (gI v5))]) rfl (by decide) rfl dX9_codeAt_83 ?_
        exact V_sub [3, 4, 5, 0, 1, 6, 2] rfl h
      · have h := h.2 q10
        refine V_iload 1 rfl dX9_codeAt_55 ?_
        refine V_istore_n (L' := [(3, .int (gI (zand (zshr (σ (c0 + 3) v3.toNat) 8) 255))), (4, .int (gI (v4 + (-1)))), (6, .int (gI (zand (zshr (σ (c0 + 3) v3.toNat) 8) 255))), (0, .ref (cxA X c0)), (1, .int (gI v1)), (2, .int (gI v2)), (5, .int (gI v5))]) rfl (by decide) rfl dX9_codeAt_57 ?_
        refine V_goto (tgt := 84) dX9_codeAt_58 (by decide) ?_
        exact V_sub [3, 4, 5, 0, 1, 6, 2] rfl h
set_option maxHeartbeats 2000000 in
set_option maxRecDepth 20000 in
theorem rX9_codeAt_84 {X : Cx} {c0 : Nat} {v1 : Int} {v2 : Int} {v3 : Int} {v4 : Int} {v5 : Int} {v6 : Int} (hc0 : isWay c0) {σ : Sg} {Q : Int → Sg → Prop} (h : Rng σ → GX9_codeAt_12 X c0 v1 v2 v3 v4 (v5 + 1) σ Q) : GX9_codeAt_84 X c0 v1 v2 v3 v4 v5 v6 σ Q := by
  unfold GX9_codeAt_84
  refine V_rng (fun hR0 => ?_)
  have h := h hR0
  refine V_iinc (L' := [(5, .int (gI (v5 + 1))), (0, .ref (cxA X c0)), (1, .int (gI v1)), (2, .int (gI v2)), (3, .int (gI v3)), (4, .int (gI v4)), (6, .int (gI v6))]) 5 rfl (by decide) rfl dX9_codeAt_84 ?_
  refine V_goto (tgt := 12) dX9_codeAt_87 (by decide) ?_
  exact V_sub [1, 2, 3, 4, 5, 0] rfl h
theorem eX9_codeAt {X : Cx} {c0 : Nat} {v1 : Int} {v2 : Int} {σ : Sg} {Q : Int → Sg → Prop} (h : GX9_codeAt_0 X c0 v1 v2 σ Q) : KX9_codeAt X c0 v1 v2 σ Q := V_enter (by decide) (Nat.le_of_ble_eq_true rfl) rfl h
def GX11_thing_0 (X : Cx) (v1 : Int) (v2 : Int) (v3 : Int) (v4 : Int) (σ : Sg) (Q : Int → Sg → Prop) : Prop := VV X mX11_thing 0 [(0, .ref (cxA X 0)), (1, .int (gI v1)), (2, .int (gI v2)), (3, .int (gI v3)), (4, .int (gI v4))] [] σ Q
set_option maxHeartbeats 2000000 in
set_option maxRecDepth 20000 in
theorem rX11_thing_0 {X : Cx} {v1 : Int} {v2 : Int} {v3 : Int} {v4 : Int} {σ : Sg} {Q : Int → Sg → Prop} (h : Rng σ → KX5_isLook X 0 v1 σ (fun r1 σ2 => Rng σ2 → (inI r1) ∧ ((r1 = 0 → Q ((-3)) σ2) ∧ (¬ r1 = 0 → KX5_isLook X 1 v2 σ2 (fun r6 σ7 => Rng σ7 → (inI r6) ∧ ((r6 = 0 → Q ((-3)) σ7) ∧ (¬ r6 = 0 → KX5_isLook X 2 v3 σ7 (fun r11 σ12 => Rng σ12 → (inI r11) ∧ ((r11 = 0 → Q ((-3)) σ12) ∧ (¬ r11 = 0 → KX11_isWithin X v4 16 σ12 (fun r16 σ17 => Rng σ17 → (inI r16) ∧ ((¬ r16 = 0 → KX5_isTaken X v4 σ17 (fun r21 σ22 => Rng σ22 → (inI r21) ∧ ((r21 = 0 → (((σ22 1 1) < 8 → (inI ((σ22 0 11) + 1)) ∧ KX5_add X v1 v2 v3 v4 (up2 σ22 0 11 ((σ22 0 11) + 1)) (fun r28 σ29 => Rng σ29 → Q r28 σ29)) ∧ (8 ≤ (σ22 1 1) → Q ((-5)) σ22))) ∧ (¬ r21 = 0 → Q ((-4)) σ22)))) ∧ (r16 = 0 → Q ((-3)) σ17))))))))))))) : GX11_thing_0 X v1 v2 v3 v4 σ Q := by
  unfold GX11_thing_0
  refine V_rng (fun hR0 => ?_)
  have h := h hR0
  refine V_iconst dX11_thing_0 ?_
  refine V_iload_n 1 rfl rfl dX11_thing_1 ?_
  refine V_cS (M' := mX5_isLook) (As := [.int (gI 0), .int (gI v1)]) (fun r => [.int (gI r)]) ok_X5_isLook ok2_X5_isLook rfl rfl (Nat.le_of_ble_eq_true rfl) dX11_thing_2 lk_RX11_m84 (by decide) (fun _ => rfl) h (fun r1 σ2 h => ?_)
  refine V_rng (fun hR3 => ?_)
  have h := h hR3
  obtain ⟨g4, h⟩ := h
  refine V_if_eq (tgt := 34) dX11_thing_5 (by decide) g4 (fun q5 => ?_) (fun q5 => ?_)
  · have h := h.1 q5
    refine V_bipush (v := -3) (by decide) dX11_thing_34 ?_
    exact V_iret rfl (fun _ q => by cases q) (vp_nar_int _) dX11_thing_36 h
  · have h := h.2 q5
    refine V_iconst dX11_thing_8 ?_
    refine V_iload_n 2 rfl rfl dX11_thing_9 ?_
    refine V_cS (M' := mX5_isLook) (As := [.int (gI 1), .int (gI v2)]) (fun r => [.int (gI r)]) ok_X5_isLook ok2_X5_isLook rfl rfl (Nat.le_of_ble_eq_true rfl) dX11_thing_10 lk_RX11_m84 (by decide) (fun _ => rfl) h (fun r6 σ7 h => ?_)
    refine V_rng (fun hR8 => ?_)
    have h := h hR8
    obtain ⟨g9, h⟩ := h
    refine V_if_eq (tgt := 34) dX11_thing_13 (by decide) g9 (fun q10 => ?_) (fun q10 => ?_)
    · have h := h.1 q10
      refine V_bipush (v := -3) (by decide) dX11_thing_34 ?_
      exact V_iret rfl (fun _ q => by cases q) (vp_nar_int _) dX11_thing_36 h
    · have h := h.2 q10
      refine V_iconst dX11_thing_16 ?_
      refine V_iload_n 3 rfl rfl dX11_thing_17 ?_
      refine V_cS (M' := mX5_isLook) (As := [.int (gI 2), .int (gI v3)]) (fun r => [.int (gI r)]) ok_X5_isLook ok2_X5_isLook rfl rfl (Nat.le_of_ble_eq_true rfl) dX11_thing_18 lk_RX11_m84 (by decide) (fun _ => rfl) h (fun r11 σ12 h => ?_)
      refine V_rng (fun hR13 => ?_)
      have h := h hR13
      obtain ⟨g14, h⟩ := h
      refine V_if_eq (tgt := 34) dX11_thing_21 (by decide) g14 (fun q15 => ?_) (fun q15 => ?_)
      · have h := h.1 q15
        refine V_bipush (v := -3) (by decide) dX11_thing_34 ?_
        exact V_iret rfl (fun _ q => by cases q) (vp_nar_int _) dX11_thing_36 h
      · have h := h.2 q15
        refine V_iload 4 rfl dX11_thing_24 ?_
        refine V_bipush (v := 16) (by decide) dX11_thing_26 ?_
        refine V_cS (M' := mX11_isWithin) (As := [.int (gI v4), .int (gI 16)]) (fun r => [.int (gI r)]) ok_X11_isWithin ok2_X11_isWithin rfl rfl (Nat.le_of_ble_eq_true rfl) dX11_thing_28 lk_RX11_m88 (by decide) (fun _ => rfl) h (fun r16 σ17 h => ?_)
        refine V_rng (fun hR18 => ?_)
        have h := h hR18
        obtain ⟨g19, h⟩ := h
        refine V_if_ne (tgt := 37) dX11_thing_31 (by decide) g19 (fun q20 => ?_) (fun q20 => ?_)
        · have h := h.1 q20
          refine V_aload_n 0 rfl rfl dX11_thing_37 ?_
          refine V_getR (f := 0) ci_X11 sh_0 rfl (by decide) (c1 := 1) rfl dX11_thing_38 lk_RX11_f10 ?_
          refine V_iload 4 rfl dX11_thing_41 ?_
          refine V_cV (M' := mX5_isTaken) (As := [.int (gI v4)]) (fun r => [.int (gI r)]) ok_X5_isTaken ok2_X5_isTaken sh_1 rfl (by decide) rfl rfl (Nat.le_of_ble_eq_true rfl) dX11_thing_43 lk_RX11_m91 (by decide) (fun _ => rfl) h (fun r21 σ22 h => ?_)
          refine V_rng (fun hR23 => ?_)
          have h := h hR23
          obtain ⟨g24, h⟩ := h
          refine V_if_eq (tgt := 52) dX11_thing_46 (by decide) g24 (fun q25 => ?_) (fun q25 => ?_)
          · have h := h.1 q25
            refine V_aload_n 0 rfl rfl dX11_thing_52 ?_
            refine V_getR (f := 0) ci_X11 sh_0 rfl (by decide) (c1 := 1) rfl dX11_thing_53 lk_RX11_f10 ?_
            refine V_getI (f := 1) ci_X5 sh_1 rfl (by decide) dX11_thing_56 lk_RX11_f95 ?_
            refine V_bipush (v := 8) (by decide) dX11_thing_59 ?_
            refine V_icmp_lt (tgt := 67) dX11_thing_61 (by decide) (show inI (σ22 1 1) from (inI_sh hR23 sh_1 (by decide))) (by decide) (fun q26 => ?_) (fun q26 => ?_)
            · have h := h.1 q26
              refine V_aload_n 0 rfl rfl dX11_thing_67 ?_
              refine V_dup rfl dX11_thing_68 ?_
              refine V_getI (f := 11) ci_X11 sh_0 rfl (by decide) dX11_thing_69 lk_RX11_f99 ?_
              refine V_iconst dX11_thing_72 ?_
              refine V_iadd dX11_thing_73 ?_
              obtain ⟨g27, h⟩ := h
              refine V_putI (f := 11) ci_X11 sh_0 rfl (by decide) rfl rfl g27 dX11_thing_74 lk_RX11_f99 ?_
              refine V_aload_n 0 rfl rfl dX11_thing_77 ?_
              refine V_getR (f := 0) ci_X11 sh_0 rfl (by decide) (c1 := 1) rfl dX11_thing_78 lk_RX11_f10 ?_
              refine V_iload_n 1 rfl rfl dX11_thing_81 ?_
              refine V_iload_n 2 rfl rfl dX11_thing_82 ?_
              refine V_iload_n 3 rfl rfl dX11_thing_83 ?_
              refine V_iload 4 rfl dX11_thing_84 ?_
              refine V_cV (M' := mX5_add) (As := [.int (gI v1), .int (gI v2), .int (gI v3), .int (gI v4)]) (fun r => [.int (gI r)]) ok_X5_add ok2_X5_add sh_1 rfl (by decide) rfl rfl (Nat.le_of_ble_eq_true rfl) dX11_thing_86 lk_RX11_m102 (by decide) (fun _ => rfl) h (fun r28 σ29 h => ?_)
              refine V_rng (fun hR30 => ?_)
              have h := h hR30
              exact V_iret rfl (fun _ q => by cases q) (vp_nar_int _) dX11_thing_89 h
            · have h := h.2 q26
              refine V_bipush (v := -5) (by decide) dX11_thing_64 ?_
              exact V_iret rfl (fun _ q => by cases q) (vp_nar_int _) dX11_thing_66 h
          · have h := h.2 q25
            refine V_bipush (v := -4) (by decide) dX11_thing_49 ?_
            exact V_iret rfl (fun _ q => by cases q) (vp_nar_int _) dX11_thing_51 h
        · have h := h.2 q20
          refine V_bipush (v := -3) (by decide) dX11_thing_34 ?_
          exact V_iret rfl (fun _ q => by cases q) (vp_nar_int _) dX11_thing_36 h
theorem eX11_thing {X : Cx} {v1 : Int} {v2 : Int} {v3 : Int} {v4 : Int} {σ : Sg} {Q : Int → Sg → Prop} (h : GX11_thing_0 X v1 v2 v3 v4 σ Q) : KX11_thing X v1 v2 v3 v4 σ Q := V_enter (by decide) (Nat.le_of_ble_eq_true rfl) rfl h
def GX11_paint_0 (X : Cx) (v1 : Int) (v2 : Int) (v3 : Int) (σ : Sg) (Q : Int → Sg → Prop) : Prop := VV X mX11_paint 0 [(0, .ref (cxA X 0)), (1, .int (gI v1)), (2, .int (gI v2)), (3, .int (gI v3))] [] σ Q
set_option maxHeartbeats 2000000 in
set_option maxRecDepth 20000 in
theorem rX11_paint_0 {X : Cx} {v1 : Int} {v2 : Int} {v3 : Int} {σ : Sg} {Q : Int → Sg → Prop} (h : Rng σ → KX5_has X v1 σ (fun r1 σ2 => Rng σ2 → (inI r1) ∧ ((¬ r1 = 0 → KX5_isLook X v2 v3 σ2 (fun r6 σ7 => Rng σ7 → (inI r6) ∧ ((¬ r6 = 0 → (0 ≤ v2 ∧ v2 < 8) ∧ (0 ≤ v1 ∧ v1 < 8) ∧ (0 ≤ v2 ∧ v2 < 8) ∧ (0 ≤ v1 ∧ v1 < 8) ∧ (inI v3) ∧ (inI (((up2 σ7 (3 + v2.toNat) v1.toNat v3) 0 11) + 1)) ∧ Q (σ7 (3 + v2.toNat) v1.toNat) (up2 (up2 σ7 (3 + v2.toNat) v1.toNat v3) 0 11 (((up2 σ7 (3 + v2.toNat) v1.toNat v3) 0 11) + 1))) ∧ (r6 = 0 → Q ((-3)) σ7)))) ∧ (r1 = 0 → Q ((-2)) σ2)))) : GX11_paint_0 X v1 v2 v3 σ Q := by
  unfold GX11_paint_0
  refine V_rng (fun hR0 => ?_)
  have h := h hR0
  refine V_aload_n 0 rfl rfl dX11_paint_0 ?_
  refine V_getR (f := 0) ci_X11 sh_0 rfl (by decide) (c1 := 1) rfl dX11_paint_1 lk_RX11_f10 ?_
  refine V_iload_n 1 rfl rfl dX11_paint_4 ?_
  refine V_cV (M' := mX5_has) (As := [.int (gI v1)]) (fun r => [.int (gI r)]) ok_X5_has ok2_X5_has sh_1 rfl (by decide) rfl rfl (Nat.le_of_ble_eq_true rfl) dX11_paint_5 lk_RX11_m106 (by decide) (fun _ => rfl) h (fun r1 σ2 h => ?_)
  refine V_rng (fun hR3 => ?_)
  have h := h hR3
  obtain ⟨g4, h⟩ := h
  refine V_if_ne (tgt := 14) dX11_paint_8 (by decide) g4 (fun q5 => ?_) (fun q5 => ?_)
  · have h := h.1 q5
    refine V_iload_n 2 rfl rfl dX11_paint_14 ?_
    refine V_iload_n 3 rfl rfl dX11_paint_15 ?_
    refine V_cS (M' := mX5_isLook) (As := [.int (gI v2), .int (gI v3)]) (fun r => [.int (gI r)]) ok_X5_isLook ok2_X5_isLook rfl rfl (Nat.le_of_ble_eq_true rfl) dX11_paint_16 lk_RX11_m84 (by decide) (fun _ => rfl) h (fun r6 σ7 h => ?_)
    refine V_rng (fun hR8 => ?_)
    have h := h hR8
    obtain ⟨g9, h⟩ := h
    refine V_if_ne (tgt := 25) dX11_paint_19 (by decide) g9 (fun q10 => ?_) (fun q10 => ?_)
    · have h := h.1 q10
      refine V_aload_n 0 rfl rfl dX11_paint_25 ?_
      refine V_getR (f := 0) ci_X11 sh_0 rfl (by decide) (c1 := 1) rfl dX11_paint_26 lk_RX11_f10 ?_
      refine V_getR (f := 0) ci_X5 sh_1 rfl (by decide) (c1 := 2) rfl dX11_paint_29 lk_RX11_f109 ?_
      refine V_iload_n 2 rfl rfl dX11_paint_32 ?_
      obtain ⟨g11, h⟩ := h
      refine V_aald (c1 := 3 + v2.toNat) sh_2 (by decide) g11 (by omega) dX11_paint_33 ?_
      refine V_iload_n 1 rfl rfl dX11_paint_34 ?_
      obtain ⟨g12, h⟩ := h
      refine V_iald (sh_row v2.toNat (by omega)) (by decide) g12 dX11_paint_35 ?_
      refine V_istore (L' := [(4, .int (gI (σ7 (3 + v2.toNat) v1.toNat))), (0, .ref (cxA X 0)), (1, .int (gI v1)), (2, .int (gI v2)), (3, .int (gI v3))]) (by decide) rfl dX11_paint_36 ?_
      refine V_aload_n 1 rfl rfl dX11_paint_38 ?_
      refine V_getR (f := 0) ci_X11 sh_0 rfl (by decide) (c1 := 1) rfl dX11_paint_39 lk_RX11_f10 ?_
      refine V_getR (f := 0) ci_X5 sh_1 rfl (by decide) (c1 := 2) rfl dX11_paint_42 lk_RX11_f109 ?_
      refine V_iload_n 3 rfl rfl dX11_paint_45 ?_
      obtain ⟨g13, h⟩ := h
      refine V_aald (c1 := 3 + v2.toNat) sh_2 (by decide) g13 (by omega) dX11_paint_46 ?_
      refine V_iload_n 2 rfl rfl dX11_paint_47 ?_
      refine V_iload_n 4 rfl rfl dX11_paint_48 ?_
      obtain ⟨g14, h⟩ := h
      obtain ⟨g15, h⟩ := h
      refine V_iast (sh_row v2.toNat (by omega)) (by decide) g14 g15 dX11_paint_49 ?_
      refine V_aload_n 1 rfl rfl dX11_paint_50 ?_
      refine V_dup rfl dX11_paint_51 ?_
      refine V_getI (f := 11) ci_X11 sh_0 rfl (by decide) dX11_paint_52 lk_RX11_f99 ?_
      refine V_iconst dX11_paint_55 ?_
      refine V_iadd dX11_paint_56 ?_
      obtain ⟨g16, h⟩ := h
      refine V_putI (f := 11) ci_X11 sh_0 rfl (by decide) rfl rfl g16 dX11_paint_57 lk_RX11_f99 ?_
      refine V_iload 0 rfl dX11_paint_60 ?_
      exact V_iret rfl (fun _ q => by cases q) (vp_nar_int _) dX11_paint_62 h
    · have h := h.2 q10
      refine V_bipush (v := -3) (by decide) dX11_paint_22 ?_
      exact V_iret rfl (fun _ q => by cases q) (vp_nar_int _) dX11_paint_24 h
  · have h := h.2 q5
    refine V_bipush (v := -2) (by decide) dX11_paint_11 ?_
    exact V_iret rfl (fun _ q => by cases q) (vp_nar_int _) dX11_paint_13 h
theorem eX11_paint {X : Cx} {v1 : Int} {v2 : Int} {v3 : Int} {σ : Sg} {Q : Int → Sg → Prop} (h : GX11_paint_0 X v1 v2 v3 σ Q) : KX11_paint X v1 v2 v3 σ Q := V_enter (by decide) (Nat.le_of_ble_eq_true rfl) rfl h
def GX11_tie_0 (X : Cx) (v1 : Int) (v2 : Int) (σ : Sg) (Q : Int → Sg → Prop) : Prop := VV X mX11_tie 0 [(0, .ref (cxA X 0)), (1, .int (gI v1)), (2, .int (gI v2))] [] σ Q
set_option maxHeartbeats 2000000 in
set_option maxRecDepth 20000 in
theorem rX11_tie_0 {X : Cx} {v1 : Int} {v2 : Int} {σ : Sg} {Q : Int → Sg → Prop} (h : Rng σ → KX5_has X v1 σ (fun r1 σ2 => Rng σ2 → (inI r1) ∧ ((r1 = 0 → Q ((-2)) σ2) ∧ (¬ r1 = 0 → KX5_has X v2 σ2 (fun r6 σ7 => Rng σ7 → (inI r6) ∧ ((r6 = 0 → Q ((-2)) σ7) ∧ (¬ r6 = 0 → (inI v1) ∧ (inI v2) ∧ ((¬ v1 = v2 → KX5_isTied X v1 v2 σ7 (fun r14 σ15 => Rng σ15 → (inI r14) ∧ ((r14 = 0 → (inI ((σ15 0 11) + 1)) ∧ KX5_addTie X v1 v2 (up2 σ15 0 11 ((σ15 0 11) + 1)) (fun r20 σ21 => Rng σ21 → Q r20 σ21)) ∧ (¬ r14 = 0 → Q ((-4)) σ15)))) ∧ (v1 = v2 → Q ((-2)) σ7))))))))) : GX11_tie_0 X v1 v2 σ Q := by
  unfold GX11_tie_0
  refine V_rng (fun hR0 => ?_)
  have h := h hR0
  refine V_aload_n 0 rfl rfl dX11_tie_0 ?_
  refine V_getR (f := 0) ci_X11 sh_0 rfl (by decide) (c1 := 1) rfl dX11_tie_1 lk_RX11_f10 ?_
  refine V_iload_n 1 rfl rfl dX11_tie_4 ?_
  refine V_cV (M' := mX5_has) (As := [.int (gI v1)]) (fun r => [.int (gI r)]) ok_X5_has ok2_X5_has sh_1 rfl (by decide) rfl rfl (Nat.le_of_ble_eq_true rfl) dX11_tie_5 lk_RX11_m106 (by decide) (fun _ => rfl) h (fun r1 σ2 h => ?_)
  refine V_rng (fun hR3 => ?_)
  have h := h hR3
  obtain ⟨g4, h⟩ := h
  refine V_if_eq (tgt := 27) dX11_tie_8 (by decide) g4 (fun q5 => ?_) (fun q5 => ?_)
  · have h := h.1 q5
    refine V_bipush (v := -2) (by decide) dX11_tie_27 ?_
    exact V_iret rfl (fun _ q => by cases q) (vp_nar_int _) dX11_tie_29 h
  · have h := h.2 q5
    refine V_aload_n 0 rfl rfl dX11_tie_11 ?_
    refine V_getR (f := 0) ci_X11 sh_0 rfl (by decide) (c1 := 1) rfl dX11_tie_12 lk_RX11_f10 ?_
    refine V_iload_n 2 rfl rfl dX11_tie_15 ?_
    refine V_cV (M' := mX5_has) (As := [.int (gI v2)]) (fun r => [.int (gI r)]) ok_X5_has ok2_X5_has sh_1 rfl (by decide) rfl rfl (Nat.le_of_ble_eq_true rfl) dX11_tie_16 lk_RX11_m106 (by decide) (fun _ => rfl) h (fun r6 σ7 h => ?_)
    refine V_rng (fun hR8 => ?_)
    have h := h hR8
    obtain ⟨g9, h⟩ := h
    refine V_if_eq (tgt := 27) dX11_tie_19 (by decide) g9 (fun q10 => ?_) (fun q10 => ?_)
    · have h := h.1 q10
      refine V_bipush (v := -2) (by decide) dX11_tie_27 ?_
      exact V_iret rfl (fun _ q => by cases q) (vp_nar_int _) dX11_tie_29 h
    · have h := h.2 q10
      refine V_iload_n 1 rfl rfl dX11_tie_22 ?_
      refine V_iload_n 2 rfl rfl dX11_tie_23 ?_
      obtain ⟨g11, h⟩ := h
      obtain ⟨g12, h⟩ := h
      refine V_icmp_ne (tgt := 30) dX11_tie_24 (by decide) g11 g12 (fun q13 => ?_) (fun q13 => ?_)
      · have h := h.1 q13
        refine V_aload_n 0 rfl rfl dX11_tie_30 ?_
        refine V_getR (f := 0) ci_X11 sh_0 rfl (by decide) (c1 := 1) rfl dX11_tie_31 lk_RX11_f10 ?_
        refine V_iload_n 1 rfl rfl dX11_tie_34 ?_
        refine V_iload_n 2 rfl rfl dX11_tie_35 ?_
        refine V_cV (M' := mX5_isTied) (As := [.int (gI v1), .int (gI v2)]) (fun r => [.int (gI r)]) ok_X5_isTied ok2_X5_isTied sh_1 rfl (by decide) rfl rfl (Nat.le_of_ble_eq_true rfl) dX11_tie_36 lk_RX11_m113 (by decide) (fun _ => rfl) h (fun r14 σ15 h => ?_)
        refine V_rng (fun hR16 => ?_)
        have h := h hR16
        obtain ⟨g17, h⟩ := h
        refine V_if_eq (tgt := 45) dX11_tie_39 (by decide) g17 (fun q18 => ?_) (fun q18 => ?_)
        · have h := h.1 q18
          refine V_aload_n 0 rfl rfl dX11_tie_45 ?_
          refine V_dup rfl dX11_tie_46 ?_
          refine V_getI (f := 11) ci_X11 sh_0 rfl (by decide) dX11_tie_47 lk_RX11_f99 ?_
          refine V_iconst dX11_tie_50 ?_
          refine V_iadd dX11_tie_51 ?_
          obtain ⟨g19, h⟩ := h
          refine V_putI (f := 11) ci_X11 sh_0 rfl (by decide) rfl rfl g19 dX11_tie_52 lk_RX11_f99 ?_
          refine V_aload_n 0 rfl rfl dX11_tie_55 ?_
          refine V_getR (f := 0) ci_X11 sh_0 rfl (by decide) (c1 := 1) rfl dX11_tie_56 lk_RX11_f10 ?_
          refine V_iload_n 1 rfl rfl dX11_tie_59 ?_
          refine V_iload_n 2 rfl rfl dX11_tie_60 ?_
          refine V_cV (M' := mX5_addTie) (As := [.int (gI v1), .int (gI v2)]) (fun r => [.int (gI r)]) ok_X5_addTie ok2_X5_addTie sh_1 rfl (by decide) rfl rfl (Nat.le_of_ble_eq_true rfl) dX11_tie_61 lk_RX11_m116 (by decide) (fun _ => rfl) h (fun r20 σ21 h => ?_)
          refine V_rng (fun hR22 => ?_)
          have h := h hR22
          exact V_iret rfl (fun _ q => by cases q) (vp_nar_int _) dX11_tie_64 h
        · have h := h.2 q18
          refine V_bipush (v := -4) (by decide) dX11_tie_42 ?_
          exact V_iret rfl (fun _ q => by cases q) (vp_nar_int _) dX11_tie_44 h
      · have h := h.2 q13
        refine V_bipush (v := -2) (by decide) dX11_tie_27 ?_
        exact V_iret rfl (fun _ q => by cases q) (vp_nar_int _) dX11_tie_29 h
theorem eX11_tie {X : Cx} {v1 : Int} {v2 : Int} {σ : Sg} {Q : Int → Sg → Prop} (h : GX11_tie_0 X v1 v2 σ Q) : KX11_tie X v1 v2 σ Q := V_enter (by decide) (Nat.le_of_ble_eq_true rfl) rfl h
def GX11_of_0 (X : Cx) (v1 : Int) (v2 : Int) (σ : Sg) (Q : Int → Sg → Prop) : Prop := VV X mX11_of 0 [(0, .ref (cxA X 0)), (1, .int (gI v1)), (2, .int (gI v2))] [] σ Q
set_option maxHeartbeats 2000000 in
set_option maxRecDepth 20000 in
theorem rX11_of_0 {X : Cx} {v1 : Int} {v2 : Int} {σ : Sg} {Q : Int → Sg → Prop} (h : Rng σ → KX5_has X v1 σ (fun r1 σ2 => Rng σ2 → (inI r1) ∧ ((¬ r1 = 0 → KX11_isWithin X v2 7 σ2 (fun r6 σ7 => Rng σ7 → (inI r6) ∧ ((r6 = 0 → Q ((-3)) σ7) ∧ (¬ r6 = 0 → (0 ≤ v2 ∧ v2 < 8) ∧ (0 ≤ v1 ∧ v1 < 8) ∧ Q (σ7 (3 + v2.toNat) v1.toNat) σ7)))) ∧ (r1 = 0 → Q ((-2)) σ2)))) : GX11_of_0 X v1 v2 σ Q := by
  unfold GX11_of_0
  refine V_rng (fun hR0 => ?_)
  have h := h hR0
  refine V_aload_n 0 rfl rfl dX11_of_0 ?_
  refine V_getR (f := 0) ci_X11 sh_0 rfl (by decide) (c1 := 1) rfl dX11_of_1 lk_RX11_f10 ?_
  refine V_iload_n 1 rfl rfl dX11_of_4 ?_
  refine V_cV (M' := mX5_has) (As := [.int (gI v1)]) (fun r => [.int (gI r)]) ok_X5_has ok2_X5_has sh_1 rfl (by decide) rfl rfl (Nat.le_of_ble_eq_true rfl) dX11_of_5 lk_RX11_m106 (by decide) (fun _ => rfl) h (fun r1 σ2 h => ?_)
  refine V_rng (fun hR3 => ?_)
  have h := h hR3
  obtain ⟨g4, h⟩ := h
  refine V_if_ne (tgt := 14) dX11_of_8 (by decide) g4 (fun q5 => ?_) (fun q5 => ?_)
  · have h := h.1 q5
    refine V_iload_n 2 rfl rfl dX11_of_14 ?_
    refine V_bipush (v := 7) (by decide) dX11_of_15 ?_
    refine V_cS (M' := mX11_isWithin) (As := [.int (gI v2), .int (gI 7)]) (fun r => [.int (gI r)]) ok_X11_isWithin ok2_X11_isWithin rfl rfl (Nat.le_of_ble_eq_true rfl) dX11_of_17 lk_RX11_m88 (by decide) (fun _ => rfl) h (fun r6 σ7 h => ?_)
    refine V_rng (fun hR8 => ?_)
    have h := h hR8
    obtain ⟨g9, h⟩ := h
    refine V_if_eq (tgt := 37) dX11_of_20 (by decide) g9 (fun q10 => ?_) (fun q10 => ?_)
    · have h := h.1 q10
      refine V_bipush (v := -3) (by decide) dX11_of_37 ?_
      exact V_iret rfl (fun _ q => by cases q) (vp_nar_int _) dX11_of_39 h
    · have h := h.2 q10
      refine V_aload_n 0 rfl rfl dX11_of_23 ?_
      refine V_getR (f := 0) ci_X11 sh_0 rfl (by decide) (c1 := 1) rfl dX11_of_24 lk_RX11_f10 ?_
      refine V_getR (f := 0) ci_X5 sh_1 rfl (by decide) (c1 := 2) rfl dX11_of_27 lk_RX11_f109 ?_
      refine V_iload_n 2 rfl rfl dX11_of_30 ?_
      obtain ⟨g11, h⟩ := h
      refine V_aald (c1 := 3 + v2.toNat) sh_2 (by decide) g11 (by omega) dX11_of_31 ?_
      refine V_iload_n 1 rfl rfl dX11_of_32 ?_
      obtain ⟨g12, h⟩ := h
      refine V_iald (sh_row v2.toNat (by omega)) (by decide) g12 dX11_of_33 ?_
      refine V_goto (tgt := 39) dX11_of_34 (by decide) ?_
      exact V_iret rfl (fun _ q => by cases q) (vp_nar_int _) dX11_of_39 h
  · have h := h.2 q5
    refine V_bipush (v := -2) (by decide) dX11_of_11 ?_
    exact V_iret rfl (fun _ q => by cases q) (vp_nar_int _) dX11_of_13 h
theorem eX11_of {X : Cx} {v1 : Int} {v2 : Int} {σ : Sg} {Q : Int → Sg → Prop} (h : GX11_of_0 X v1 v2 σ Q) : KX11_of X v1 v2 σ Q := V_enter (by decide) (Nat.le_of_ble_eq_true rfl) rfl h
def GX11_price_0 (X : Cx) (v1 : Int) (v2 : Int) (σ : Sg) (Q : Int → Sg → Prop) : Prop := VV X mX11_price 0 [(0, .ref (cxA X 0)), (1, .int (gI v1)), (2, .int (gI v2))] [] σ Q
set_option maxHeartbeats 2000000 in
set_option maxRecDepth 20000 in
theorem rX11_price_0 {X : Cx} {v1 : Int} {v2 : Int} {σ : Sg} {Q : Int → Sg → Prop} (h : Rng σ → KX11_isWithin X v1 15 σ (fun r1 σ2 => Rng σ2 → (inI r1) ∧ ((r1 = 0 → Q ((-3)) σ2) ∧ (¬ r1 = 0 → (inI v2) ∧ ((v2 < 1 → Q ((-3)) σ2) ∧ (1 ≤ v2 → (inI v2) ∧ ((v2 ≤ 9 → (0 ≤ v1 ∧ v1 < 15) ∧ (0 ≤ v1 ∧ v1 < 15) ∧ (inI v2) ∧ (inI ((σ2 0 11) + 1)) ∧ Q (σ2 11 v1.toNat) (up2 (up2 σ2 11 v1.toNat v2) 0 11 ((σ2 0 11) + 1))) ∧ (9 < v2 → Q ((-3)) σ2)))))))) : GX11_price_0 X v1 v2 σ Q := by
  unfold GX11_price_0
  refine V_rng (fun hR0 => ?_)
  have h := h hR0
  refine V_iload_n 1 rfl rfl dX11_price_0 ?_
  refine V_bipush (v := 15) (by decide) dX11_price_1 ?_
  refine V_cS (M' := mX11_isWithin) (As := [.int (gI v1), .int (gI 15)]) (fun r => [.int (gI r)]) ok_X11_isWithin ok2_X11_isWithin rfl rfl (Nat.le_of_ble_eq_true rfl) dX11_price_3 lk_RX11_m88 (by decide) (fun _ => rfl) h (fun r1 σ2 h => ?_)
  refine V_rng (fun hR3 => ?_)
  have h := h hR3
  obtain ⟨g4, h⟩ := h
  refine V_if_eq (tgt := 20) dX11_price_6 (by decide) g4 (fun q5 => ?_) (fun q5 => ?_)
  · have h := h.1 q5
    refine V_bipush (v := -3) (by decide) dX11_price_20 ?_
    exact V_iret rfl (fun _ q => by cases q) (vp_nar_int _) dX11_price_22 h
  · have h := h.2 q5
    refine V_iload_n 2 rfl rfl dX11_price_9 ?_
    refine V_iconst dX11_price_10 ?_
    obtain ⟨g6, h⟩ := h
    refine V_icmp_lt (tgt := 20) dX11_price_11 (by decide) g6 (by decide) (fun q7 => ?_) (fun q7 => ?_)
    · have h := h.1 q7
      refine V_bipush (v := -3) (by decide) dX11_price_20 ?_
      exact V_iret rfl (fun _ q => by cases q) (vp_nar_int _) dX11_price_22 h
    · have h := h.2 q7
      refine V_iload_n 2 rfl rfl dX11_price_14 ?_
      refine V_bipush (v := 9) (by decide) dX11_price_15 ?_
      obtain ⟨g8, h⟩ := h
      refine V_icmp_le (tgt := 23) dX11_price_17 (by decide) g8 (by decide) (fun q9 => ?_) (fun q9 => ?_)
      · have h := h.1 q9
        refine V_aload_n 0 rfl rfl dX11_price_23 ?_
        refine V_getR (f := 1) ci_X11 sh_0 rfl (by decide) (c1 := 11) rfl dX11_price_24 lk_RX11_f18 ?_
        refine V_iload_n 1 rfl rfl dX11_price_27 ?_
        obtain ⟨g10, h⟩ := h
        refine V_iald sh_11 (by decide) g10 dX11_price_28 ?_
        refine V_istore_n (L' := [(3, .int (gI (σ2 11 v1.toNat))), (0, .ref (cxA X 0)), (1, .int (gI v1)), (2, .int (gI v2))]) rfl (by decide) rfl dX11_price_29 ?_
        refine V_aload_n 1 rfl rfl dX11_price_30 ?_
        refine V_getR (f := 1) ci_X11 sh_0 rfl (by decide) (c1 := 11) rfl dX11_price_31 lk_RX11_f18 ?_
        refine V_iload_n 2 rfl rfl dX11_price_34 ?_
        refine V_iload_n 3 rfl rfl dX11_price_35 ?_
        obtain ⟨g11, h⟩ := h
        obtain ⟨g12, h⟩ := h
        refine V_iast sh_11 (by decide) g11 g12 dX11_price_36 ?_
        refine V_aload_n 1 rfl rfl dX11_price_37 ?_
        refine V_dup rfl dX11_price_38 ?_
        refine V_getI (f := 11) ci_X11 sh_0 rfl (by decide) dX11_price_39 lk_RX11_f99 ?_
        refine V_iconst dX11_price_42 ?_
        refine V_iadd dX11_price_43 ?_
        obtain ⟨g13, h⟩ := h
        refine V_putI (f := 11) ci_X11 sh_0 rfl (by decide) rfl rfl g13 dX11_price_44 lk_RX11_f99 ?_
        refine V_iload_n 0 rfl rfl dX11_price_47 ?_
        exact V_iret rfl (fun _ q => by cases q) (vp_nar_int _) dX11_price_48 h
      · have h := h.2 q9
        refine V_bipush (v := -3) (by decide) dX11_price_20 ?_
        exact V_iret rfl (fun _ q => by cases q) (vp_nar_int _) dX11_price_22 h
theorem eX11_price {X : Cx} {v1 : Int} {v2 : Int} {σ : Sg} {Q : Int → Sg → Prop} (h : GX11_price_0 X v1 v2 σ Q) : KX11_price X v1 v2 σ Q := V_enter (by decide) (Nat.le_of_ble_eq_true rfl) rfl h
def GX11_write_0 (X : Cx) (w1 : Int) (v3 : Int) (σ : Sg) (Q : Int → Sg → Prop) : Prop := VV X mX11_write 0 [(0, .ref (cxA X 0)), (1, .long (gJ w1)), (3, .int (gI v3))] [] σ Q
set_option maxHeartbeats 2000000 in
set_option maxRecDepth 20000 in
theorem rX11_write_0 {X : Cx} {w1 : Int} {v3 : Int} {σ : Sg} {Q : Int → Sg → Prop} (h : Rng σ → (inI v3) ∧ ((v3 < 1 → Q ((-3)) σ) ∧ (1 ≤ v3 → (inI v3) ∧ ((v3 ≤ 8 → KX7_hasRoomFor X v3 σ (fun r5 σ6 => Rng σ6 → (inI r5) ∧ ((r5 = 0 → Q ((-5)) σ6) ∧ (¬ r5 = 0 → KX7_append X w1 v3 σ6 (fun r10 σ11 => Rng σ11 → Q r10 σ11))))) ∧ (8 < v3 → Q ((-3)) σ))))) : GX11_write_0 X w1 v3 σ Q := by
  unfold GX11_write_0
  refine V_rng (fun hR0 => ?_)
  have h := h hR0
  refine V_iload_n 2 rfl rfl dX11_write_0 ?_
  refine V_iconst dX11_write_1 ?_
  obtain ⟨g1, h⟩ := h
  refine V_icmp_lt (tgt := 11) dX11_write_2 (by decide) g1 (by decide) (fun q2 => ?_) (fun q2 => ?_)
  · have h := h.1 q2
    refine V_bipush (v := -3) (by decide) dX11_write_11 ?_
    exact V_iret rfl (fun _ q => by cases q) (vp_nar_int _) dX11_write_13 h
  · have h := h.2 q2
    refine V_iload_n 2 rfl rfl dX11_write_5 ?_
    refine V_bipush (v := 8) (by decide) dX11_write_6 ?_
    obtain ⟨g3, h⟩ := h
    refine V_icmp_le (tgt := 14) dX11_write_8 (by decide) g3 (by decide) (fun q4 => ?_) (fun q4 => ?_)
    · have h := h.1 q4
      refine V_aload_n 0 rfl rfl dX11_write_14 ?_
      refine V_getR (f := 2) ci_X11 sh_0 rfl (by decide) (c1 := 12) rfl dX11_write_15 lk_RX11_f25 ?_
      refine V_iload_n 2 rfl rfl dX11_write_18 ?_
      refine V_cV (M' := mX7_hasRoomFor) (As := [.int (gI v3)]) (fun r => [.int (gI r)]) ok_X7_hasRoomFor ok2_X7_hasRoomFor sh_12 rfl (by decide) rfl rfl (Nat.le_of_ble_eq_true rfl) dX11_write_19 lk_RX11_m120 (by decide) (fun _ => rfl) h (fun r5 σ6 h => ?_)
      refine V_rng (fun hR7 => ?_)
      have h := h hR7
      obtain ⟨g8, h⟩ := h
      refine V_if_eq (tgt := 37) dX11_write_22 (by decide) g8 (fun q9 => ?_) (fun q9 => ?_)
      · have h := h.1 q9
        refine V_bipush (v := -5) (by decide) dX11_write_37 ?_
        exact V_iret rfl (fun _ q => by cases q) (vp_nar_int _) dX11_write_39 h
      · have h := h.2 q9
        refine V_aload_n 0 rfl rfl dX11_write_25 ?_
        refine V_getR (f := 2) ci_X11 sh_0 rfl (by decide) (c1 := 12) rfl dX11_write_26 lk_RX11_f25 ?_
        refine V_lload_n 1 rfl rfl dX11_write_29 ?_
        refine V_iload_n 2 rfl rfl dX11_write_30 ?_
        refine V_cV (M' := mX7_append) (As := [.long (gJ w1), .int (gI v3)]) (fun r => [.int (gI r)]) ok_X7_append ok2_X7_append sh_12 rfl (by decide) rfl rfl (Nat.le_of_ble_eq_true rfl) dX11_write_31 lk_RX11_m123 (by decide) (fun _ => rfl) h (fun r10 σ11 h => ?_)
        refine V_rng (fun hR12 => ?_)
        have h := h hR12
        refine V_goto (tgt := 39) dX11_write_34 (by decide) ?_
        exact V_iret rfl (fun _ q => by cases q) (vp_nar_int _) dX11_write_39 h
    · have h := h.2 q4
      refine V_bipush (v := -3) (by decide) dX11_write_11 ?_
      exact V_iret rfl (fun _ q => by cases q) (vp_nar_int _) dX11_write_13 h
theorem eX11_write {X : Cx} {w1 : Int} {v3 : Int} {σ : Sg} {Q : Int → Sg → Prop} (h : GX11_write_0 X w1 v3 σ Q) : KX11_write X w1 v3 σ Q := V_enter (by decide) (Nat.le_of_ble_eq_true rfl) rfl h
def GX11_erase_0 (X : Cx) (σ : Sg) (Q : Int → Sg → Prop) : Prop := VV X mX11_erase 0 [(0, .ref (cxA X 0))] [] σ Q
set_option maxHeartbeats 2000000 in
set_option maxRecDepth 20000 in
theorem rX11_erase_0 {X : Cx} {σ : Sg} {Q : Int → Sg → Prop} (h : Rng σ → KX7_clear X σ (fun r1 σ2 => Rng σ2 → Q r1 σ2)) : GX11_erase_0 X σ Q := by
  unfold GX11_erase_0
  refine V_rng (fun hR0 => ?_)
  have h := h hR0
  refine V_aload_n 0 rfl rfl dX11_erase_0 ?_
  refine V_getR (f := 2) ci_X11 sh_0 rfl (by decide) (c1 := 12) rfl dX11_erase_1 lk_RX11_f25 ?_
  refine V_cV (M' := mX7_clear) (As := []) (fun r => [.int (gI r)]) ok_X7_clear ok2_X7_clear sh_12 rfl (by decide) rfl rfl (Nat.le_of_ble_eq_true rfl) dX11_erase_4 lk_RX11_m127 (by decide) (fun _ => rfl) h (fun r1 σ2 h => ?_)
  refine V_rng (fun hR3 => ?_)
  have h := h hR3
  exact V_iret rfl (fun _ q => by cases q) (vp_nar_int _) dX11_erase_7 h
theorem eX11_erase {X : Cx} {σ : Sg} {Q : Int → Sg → Prop} (h : GX11_erase_0 X σ Q) : KX11_erase X σ Q := V_enter (by decide) (Nat.le_of_ble_eq_true rfl) rfl h
def GX11_fault_0 (X : Cx) (σ : Sg) (Q : Int → Sg → Prop) : Prop := VV X mX11_fault 0 [(0, .ref (cxA X 0))] [] σ Q
set_option maxHeartbeats 2000000 in
set_option maxRecDepth 20000 in
theorem rX11_fault_0 {X : Cx} {σ : Sg} {Q : Int → Sg → Prop} (h : Rng σ → KX7_read X σ (fun r1 σ2 => Rng σ2 → Q r1 σ2)) : GX11_fault_0 X σ Q := by
  unfold GX11_fault_0
  refine V_rng (fun hR0 => ?_)
  have h := h hR0
  refine V_aload_n 0 rfl rfl dX11_fault_0 ?_
  refine V_getR (f := 2) ci_X11 sh_0 rfl (by decide) (c1 := 12) rfl dX11_fault_1 lk_RX11_f25 ?_
  refine V_cV (M' := mX7_read) (As := []) (fun r => [.int (gI r)]) ok_X7_read ok2_X7_read sh_12 rfl (by decide) rfl rfl (Nat.le_of_ble_eq_true rfl) dX11_fault_4 lk_RX11_m131 (by decide) (fun _ => rfl) h (fun r1 σ2 h => ?_)
  refine V_rng (fun hR3 => ?_)
  have h := h hR3
  exact V_iret rfl (fun _ q => by cases q) (vp_nar_int _) dX11_fault_7 h
theorem eX11_fault {X : Cx} {σ : Sg} {Q : Int → Sg → Prop} (h : GX11_fault_0 X σ Q) : KX11_fault X σ Q := V_enter (by decide) (Nat.le_of_ble_eq_true rfl) rfl h
def GX11_told_0 (X : Cx) (c1 : Nat) (v2 : Int) (σ : Sg) (Q : Int → Sg → Prop) : Prop := VV X mX11_told 0 [(0, .ref (cxA X 0)), (1, .ref (cxA X c1)), (2, .int (gI v2))] [] σ Q
set_option maxHeartbeats 2000000 in
set_option maxRecDepth 20000 in
theorem rX11_told_0 {X : Cx} {c1 : Nat} {v2 : Int} (hc1 : isSay c1) {σ : Sg} {Q : Int → Sg → Prop} (h : Rng σ → (inI v2) ∧ ((v2 = 0 → KX4_meaning X c1 σ (fun r3 σ4 => Rng σ4 → Q r3 σ4)) ∧ (v2 = 1 → KX4_cost X c1 σ (fun r6 σ7 => Rng σ7 → Q r6 σ7)) ∧ (¬ v2 = 0 ∧ ¬ v2 = 1 → Q (σ c1 2) σ))) : GX11_told_0 X c1 v2 σ Q := by
  unfold GX11_told_0
  refine V_rng (fun hR0 => ?_)
  have h := h hR0
  refine V_iload_n 2 rfl rfl dX11_told_0 ?_
  obtain ⟨g1, h⟩ := h
  rcases (show v2 = 0 ∨ v2 = 1 ∨ (¬ v2 = 0 ∧ ¬ v2 = 1) by omega) with q2 | q2 | q2
  · have h := h.1 q2
    refine V_lsw (tgt := 28) (off := 27) dX11_told_1 g1 (by decide) (by rw [q2]; decide) (by decide) ?_
    refine V_aload_n 1 rfl rfl dX11_told_28 ?_
    refine V_aload_n 0 rfl rfl dX11_told_29 ?_
    refine V_getR (f := 0) ci_X11 sh_0 rfl (by decide) (c1 := 1) rfl dX11_told_30 lk_RX11_f10 ?_
    refine V_cV (M' := mX4_meaning) (As := [.ref (cxA X 1)]) (fun r => [.int (gI r)]) ok_X4_meaning ok2_X4_meaning hc1.1 rfl (by decide) rfl rfl (Nat.le_of_ble_eq_true rfl) dX11_told_33 lk_RX11_m149 (by decide) (fun _ => rfl) h (fun r3 σ4 h => ?_)
    refine V_rng (fun hR5 => ?_)
    have h := h hR5
    exact V_iret rfl (fun _ q => by cases q) (vp_nar_int _) dX11_told_36 h
  · have h := h.2.1 q2
    refine V_lsw (tgt := 37) (off := 36) dX11_told_1 g1 (by decide) (by rw [q2]; decide) (by decide) ?_
    refine V_aload_n 1 rfl rfl dX11_told_37 ?_
    refine V_aload_n 0 rfl rfl dX11_told_38 ?_
    refine V_getR (f := 1) ci_X11 sh_0 rfl (by decide) (c1 := 11) rfl dX11_told_39 lk_RX11_f18 ?_
    refine V_cV (M' := mX4_cost) (As := [.ref (cxA X 11)]) (fun r => [.int (gI r)]) ok_X4_cost ok2_X4_cost hc1.1 rfl (by decide) rfl rfl (Nat.le_of_ble_eq_true rfl) dX11_told_42 lk_RX11_m153 (by decide) (fun _ => rfl) h (fun r6 σ7 h => ?_)
    refine V_rng (fun hR8 => ?_)
    have h := h hR8
    exact V_iret rfl (fun _ q => by cases q) (vp_nar_int _) dX11_told_45 h
  · have h := h.2.2 q2
    refine V_lsw (tgt := 46) (off := 45) dX11_told_1 g1 (by decide) (by simp only [Op.lookupswitch.offset_cons]; rw [if_neg (by omega), if_neg (by omega)]; rfl) (by decide) ?_
    refine V_aload_n 1 rfl rfl dX11_told_46 ?_
    refine V_getI (f := 2) ci_X4 hc1.1 rfl (by decide) dX11_told_47 lk_RX11_f157 ?_
    exact V_iret rfl (fun _ q => by cases q) (vp_nar_int _) dX11_told_50 h
theorem eX11_told {X : Cx} {c1 : Nat} {v2 : Int} {σ : Sg} {Q : Int → Sg → Prop} (h : GX11_told_0 X c1 v2 σ Q) : KX11_told X c1 v2 σ Q := V_enter (by decide) (Nat.le_of_ble_eq_true rfl) rfl h
def GX11_says_0 (X : Cx) (v1 : Int) (σ : Sg) (Q : Int → Sg → Prop) : Prop := VV X mX11_says 0 [(0, .ref (cxA X 0)), (1, .int (gI v1))] [] σ Q
set_option maxHeartbeats 2000000 in
set_option maxRecDepth 20000 in
theorem rX11_says_0 {X : Cx} {v1 : Int} {σ : Sg} {Q : Int → Sg → Prop} (h : Rng σ → KX11_isWithin X v1 3 σ (fun r1 σ2 => Rng σ2 → (inI r1) ∧ ((¬ r1 = 0 → KX7_read X σ2 (fun r6 σ7 => Rng σ7 → (inI r6) ∧ ((¬ r6 = ((-1)) → Q ((-4)) σ7) ∧ (r6 = ((-1)) → KX11_told X 14 v1 σ7 (fun r11 σ12 => Rng σ12 → Q r11 σ12))))) ∧ (r1 = 0 → Q ((-3)) σ2)))) : GX11_says_0 X v1 σ Q := by
  unfold GX11_says_0
  refine V_rng (fun hR0 => ?_)
  have h := h hR0
  refine V_iload_n 1 rfl rfl dX11_says_0 ?_
  refine V_iconst dX11_says_1 ?_
  refine V_cS (M' := mX11_isWithin) (As := [.int (gI v1), .int (gI 3)]) (fun r => [.int (gI r)]) ok_X11_isWithin ok2_X11_isWithin rfl rfl (Nat.le_of_ble_eq_true rfl) dX11_says_2 lk_RX11_m88 (by decide) (fun _ => rfl) h (fun r1 σ2 h => ?_)
  refine V_rng (fun hR3 => ?_)
  have h := h hR3
  obtain ⟨g4, h⟩ := h
  refine V_if_ne (tgt := 11) dX11_says_5 (by decide) g4 (fun q5 => ?_) (fun q5 => ?_)
  · have h := h.1 q5
    refine V_aload_n 0 rfl rfl dX11_says_11 ?_
    refine V_getR (f := 2) ci_X11 sh_0 rfl (by decide) (c1 := 12) rfl dX11_says_12 lk_RX11_f25 ?_
    refine V_cV (M' := mX7_read) (As := []) (fun r => [.int (gI r)]) ok_X7_read ok2_X7_read sh_12 rfl (by decide) rfl rfl (Nat.le_of_ble_eq_true rfl) dX11_says_15 lk_RX11_m131 (by decide) (fun _ => rfl) h (fun r6 σ7 h => ?_)
    refine V_rng (fun hR8 => ?_)
    have h := h hR8
    refine V_iconst dX11_says_18 ?_
    obtain ⟨g9, h⟩ := h
    refine V_icmp_ne (tgt := 37) dX11_says_19 (by decide) g9 (by decide) (fun q10 => ?_) (fun q10 => ?_)
    · have h := h.1 q10
      refine V_bipush (v := -4) (by decide) dX11_says_37 ?_
      exact V_iret rfl (fun _ q => by cases q) (vp_nar_int _) dX11_says_39 h
    · have h := h.2 q10
      refine V_aload_n 0 rfl rfl dX11_says_22 ?_
      refine V_aload_n 0 rfl rfl dX11_says_23 ?_
      refine V_getR (f := 2) ci_X11 sh_0 rfl (by decide) (c1 := 12) rfl dX11_says_24 lk_RX11_f25 ?_
      refine V_getR (f := 1) ci_X7 sh_12 rfl (by decide) (c1 := 14) rfl dX11_says_27 lk_RX11_f134 ?_
      refine V_iload_n 1 rfl rfl dX11_says_30 ?_
      refine V_cV (M' := mX11_told) (As := [.ref (cxA X 14), .int (gI v1)]) (fun r => [.int (gI r)]) ok_X11_told ok2_X11_told sh_0 rfl (by decide) rfl rfl (Nat.le_of_ble_eq_true rfl) dX11_says_31 lk_RX11_m138 (by decide) (fun _ => rfl) h (fun r11 σ12 h => ?_)
      refine V_rng (fun hR13 => ?_)
      have h := h hR13
      refine V_goto (tgt := 39) dX11_says_34 (by decide) ?_
      exact V_iret rfl (fun _ q => by cases q) (vp_nar_int _) dX11_says_39 h
  · have h := h.2 q5
    refine V_bipush (v := -3) (by decide) dX11_says_8 ?_
    exact V_iret rfl (fun _ q => by cases q) (vp_nar_int _) dX11_says_10 h
theorem eX11_says {X : Cx} {v1 : Int} {σ : Sg} {Q : Int → Sg → Prop} (h : GX11_says_0 X v1 σ Q) : KX11_says X v1 σ Q := V_enter (by decide) (Nat.le_of_ble_eq_true rfl) rfl h
def GX11_keep_0 (X : Cx) (σ : Sg) (Q : Int → Sg → Prop) : Prop := VV X mX11_keep 0 [(0, .ref (cxA X 0))] [] σ Q
set_option maxHeartbeats 2000000 in
set_option maxRecDepth 20000 in
theorem rX11_keep_0 {X : Cx} {σ : Sg} {Q : Int → Sg → Prop} (h : Rng σ → KX7_read X σ (fun r1 σ2 => Rng σ2 → (inI r1) ∧ ((r1 = ((-1)) → (((σ2 0 10) < 8 → (0 ≤ σ2 0 10 ∧ σ2 0 10 < 8) ∧ KX4_copy X (18 + 3 * (σ2 0 10).toNat) σ2 (fun r8 σ9 => Rng σ9 → KX7_clear X σ9 (fun r11 σ12 => Rng σ12 → (inI ((σ12 0 10) + 1)) ∧ Q (σ12 0 10) (up2 σ12 0 10 ((σ12 0 10) + 1))))) ∧ (8 ≤ (σ2 0 10) → Q ((-5)) σ2))) ∧ (¬ r1 = ((-1)) → Q ((-4)) σ2)))) : GX11_keep_0 X σ Q := by
  unfold GX11_keep_0
  refine V_rng (fun hR0 => ?_)
  have h := h hR0
  refine V_aload_n 0 rfl rfl dX11_keep_0 ?_
  refine V_getR (f := 2) ci_X11 sh_0 rfl (by decide) (c1 := 12) rfl dX11_keep_1 lk_RX11_f25 ?_
  refine V_cV (M' := mX7_read) (As := []) (fun r => [.int (gI r)]) ok_X7_read ok2_X7_read sh_12 rfl (by decide) rfl rfl (Nat.le_of_ble_eq_true rfl) dX11_keep_4 lk_RX11_m131 (by decide) (fun _ => rfl) h (fun r1 σ2 h => ?_)
  refine V_rng (fun hR3 => ?_)
  have h := h hR3
  refine V_iconst dX11_keep_7 ?_
  obtain ⟨g4, h⟩ := h
  refine V_icmp_eq (tgt := 14) dX11_keep_8 (by decide) g4 (by decide) (fun q5 => ?_) (fun q5 => ?_)
  · have h := h.1 q5
    refine V_aload_n 0 rfl rfl dX11_keep_14 ?_
    refine V_getI (f := 10) ci_X11 sh_0 rfl (by decide) dX11_keep_15 lk_RX11_f142 ?_
    refine V_bipush (v := 8) (by decide) dX11_keep_18 ?_
    refine V_icmp_lt (tgt := 26) dX11_keep_20 (by decide) (show inI (σ2 0 10) from (inI_sh hR3 sh_0 (by decide))) (by decide) (fun q6 => ?_) (fun q6 => ?_)
    · have h := h.1 q6
      refine V_aload_n 0 rfl rfl dX11_keep_26 ?_
      refine V_getR (f := 3) ci_X11 sh_0 rfl (by decide) (c1 := 17) rfl dX11_keep_27 lk_RX11_f31 ?_
      refine V_aload_n 0 rfl rfl dX11_keep_30 ?_
      refine V_getI (f := 10) ci_X11 sh_0 rfl (by decide) dX11_keep_31 lk_RX11_f142 ?_
      obtain ⟨g7, h⟩ := h
      refine V_aaldS (c1 := 18 + 3 * (σ2 0 10).toNat) sh_17 (by decide) g7 (by omega) dX11_keep_34 ?_
      refine V_aload_n 0 rfl rfl dX11_keep_35 ?_
      refine V_getR (f := 2) ci_X11 sh_0 rfl (by decide) (c1 := 12) rfl dX11_keep_36 lk_RX11_f25 ?_
      refine V_getR (f := 1) ci_X7 sh_12 rfl (by decide) (c1 := 14) rfl dX11_keep_39 lk_RX11_f134 ?_
      refine V_cV (M' := mX4_copy) (As := [.ref (cxA X 14)]) (fun _ => []) ok_X4_copy ok2_X4_copy (isSay_k (σ2 0 10).toNat (by omega)).1 rfl (by decide) rfl rfl (Nat.le_of_ble_eq_true rfl) dX11_keep_42 lk_RX11_m145 (by decide) (fun _ => rfl) h (fun r8 σ9 h => ?_)
      refine V_rng (fun hR10 => ?_)
      have h := h hR10
      refine V_aload_n 0 rfl rfl dX11_keep_45 ?_
      refine V_getR (f := 2) ci_X11 sh_0 rfl (by decide) (c1 := 12) rfl dX11_keep_46 lk_RX11_f25 ?_
      refine V_cV (M' := mX7_clear) (As := []) (fun r => [.int (gI r)]) ok_X7_clear ok2_X7_clear sh_12 rfl (by decide) rfl rfl (Nat.le_of_ble_eq_true rfl) dX11_keep_49 lk_RX11_m127 (by decide) (fun _ => rfl) h (fun r11 σ12 h => ?_)
      refine V_rng (fun hR13 => ?_)
      have h := h hR13
      refine V_pop rfl dX11_keep_52 ?_
      refine V_aload_n 0 rfl rfl dX11_keep_53 ?_
      refine V_dup rfl dX11_keep_54 ?_
      refine V_getI (f := 10) ci_X11 sh_0 rfl (by decide) dX11_keep_55 lk_RX11_f142 ?_
      refine V_dup_x1 rfl rfl dX11_keep_58 ?_
      refine V_iconst dX11_keep_59 ?_
      refine V_iadd dX11_keep_60 ?_
      obtain ⟨g14, h⟩ := h
      refine V_putI (f := 10) ci_X11 sh_0 rfl (by decide) rfl rfl g14 dX11_keep_61 lk_RX11_f142 ?_
      exact V_iret rfl (fun _ q => by cases q) (vp_nar_int _) dX11_keep_64 h
    · have h := h.2 q6
      refine V_bipush (v := -5) (by decide) dX11_keep_23 ?_
      exact V_iret rfl (fun _ q => by cases q) (vp_nar_int _) dX11_keep_25 h
  · have h := h.2 q5
    refine V_bipush (v := -4) (by decide) dX11_keep_11 ?_
    exact V_iret rfl (fun _ q => by cases q) (vp_nar_int _) dX11_keep_13 h
theorem eX11_keep {X : Cx} {σ : Sg} {Q : Int → Sg → Prop} (h : GX11_keep_0 X σ Q) : KX11_keep X σ Q := V_enter (by decide) (Nat.le_of_ble_eq_true rfl) rfl h
def GX11_kept_0 (X : Cx) (v1 : Int) (v2 : Int) (σ : Sg) (Q : Int → Sg → Prop) : Prop := VV X mX11_kept 0 [(0, .ref (cxA X 0)), (1, .int (gI v1)), (2, .int (gI v2))] [] σ Q
set_option maxHeartbeats 2000000 in
set_option maxRecDepth 20000 in
theorem rX11_kept_0 {X : Cx} {v1 : Int} {v2 : Int} {σ : Sg} {Q : Int → Sg → Prop} (h : Rng σ → KX11_isWithin X v1 (σ 0 10) σ (fun r1 σ2 => Rng σ2 → (inI r1) ∧ ((¬ r1 = 0 → KX11_isWithin X v2 3 σ2 (fun r6 σ7 => Rng σ7 → (inI r6) ∧ ((r6 = 0 → Q ((-3)) σ7) ∧ (¬ r6 = 0 → (0 ≤ v1 ∧ v1 < 8) ∧ KX11_told X (18 + 3 * v1.toNat) v2 σ7 (fun r12 σ13 => Rng σ13 → Q r12 σ13))))) ∧ (r1 = 0 → Q ((-2)) σ2)))) : GX11_kept_0 X v1 v2 σ Q := by
  unfold GX11_kept_0
  refine V_rng (fun hR0 => ?_)
  have h := h hR0
  refine V_iload_n 1 rfl rfl dX11_kept_0 ?_
  refine V_aload_n 0 rfl rfl dX11_kept_1 ?_
  refine V_getI (f := 10) ci_X11 sh_0 rfl (by decide) dX11_kept_2 lk_RX11_f142 ?_
  refine V_cS (M' := mX11_isWithin) (As := [.int (gI v1), .int (gI (σ 0 10))]) (fun r => [.int (gI r)]) ok_X11_isWithin ok2_X11_isWithin rfl rfl (Nat.le_of_ble_eq_true rfl) dX11_kept_5 lk_RX11_m88 (by decide) (fun _ => rfl) h (fun r1 σ2 h => ?_)
  refine V_rng (fun hR3 => ?_)
  have h := h hR3
  obtain ⟨g4, h⟩ := h
  refine V_if_ne (tgt := 14) dX11_kept_8 (by decide) g4 (fun q5 => ?_) (fun q5 => ?_)
  · have h := h.1 q5
    refine V_iload_n 2 rfl rfl dX11_kept_14 ?_
    refine V_iconst dX11_kept_15 ?_
    refine V_cS (M' := mX11_isWithin) (As := [.int (gI v2), .int (gI 3)]) (fun r => [.int (gI r)]) ok_X11_isWithin ok2_X11_isWithin rfl rfl (Nat.le_of_ble_eq_true rfl) dX11_kept_16 lk_RX11_m88 (by decide) (fun _ => rfl) h (fun r6 σ7 h => ?_)
    refine V_rng (fun hR8 => ?_)
    have h := h hR8
    obtain ⟨g9, h⟩ := h
    refine V_if_eq (tgt := 36) dX11_kept_19 (by decide) g9 (fun q10 => ?_) (fun q10 => ?_)
    · have h := h.1 q10
      refine V_bipush (v := -3) (by decide) dX11_kept_36 ?_
      exact V_iret rfl (fun _ q => by cases q) (vp_nar_int _) dX11_kept_38 h
    · have h := h.2 q10
      refine V_aload_n 0 rfl rfl dX11_kept_22 ?_
      refine V_aload_n 0 rfl rfl dX11_kept_23 ?_
      refine V_getR (f := 3) ci_X11 sh_0 rfl (by decide) (c1 := 17) rfl dX11_kept_24 lk_RX11_f31 ?_
      refine V_iload_n 1 rfl rfl dX11_kept_27 ?_
      obtain ⟨g11, h⟩ := h
      refine V_aaldS (c1 := 18 + 3 * v1.toNat) sh_17 (by decide) g11 (by omega) dX11_kept_28 ?_
      refine V_iload_n 2 rfl rfl dX11_kept_29 ?_
      refine V_cV (M' := mX11_told) (As := [.ref (cxA X (18 + 3 * v1.toNat)), .int (gI v2)]) (fun r => [.int (gI r)]) ok_X11_told ok2_X11_told sh_0 rfl (by decide) rfl rfl (Nat.le_of_ble_eq_true rfl) dX11_kept_30 lk_RX11_m138 (by decide) (fun _ => rfl) h (fun r12 σ13 h => ?_)
      refine V_rng (fun hR14 => ?_)
      have h := h hR14
      refine V_goto (tgt := 38) dX11_kept_33 (by decide) ?_
      exact V_iret rfl (fun _ q => by cases q) (vp_nar_int _) dX11_kept_38 h
  · have h := h.2 q5
    refine V_bipush (v := -2) (by decide) dX11_kept_11 ?_
    exact V_iret rfl (fun _ q => by cases q) (vp_nar_int _) dX11_kept_13 h
theorem eX11_kept {X : Cx} {v1 : Int} {v2 : Int} {σ : Sg} {Q : Int → Sg → Prop} (h : GX11_kept_0 X v1 v2 σ Q) : KX11_kept X v1 v2 σ Q := V_enter (by decide) (Nat.le_of_ble_eq_true rfl) rfl h
def GX11_waysWith_0 (X : Cx) (v1 : Int) (σ : Sg) (Q : Int → Sg → Prop) : Prop := VV X mX11_waysWith 0 [(0, .ref (cxA X 0)), (1, .int (gI v1))] [] σ Q
def GX11_waysWith_25 (X : Cx) (v1 : Int) (σ : Sg) (Q : Int → Sg → Prop) : Prop := VV X mX11_waysWith 25 [(0, .ref (cxA X 0)), (1, .int (gI v1))] [] σ Q
set_option maxHeartbeats 2000000 in
set_option maxRecDepth 20000 in
theorem rX11_waysWith_0 {X : Cx} {v1 : Int} {σ : Sg} {Q : Int → Sg → Prop} (h : Rng σ → ((¬ (σ 42 8) = (σ 0 11) → GX11_waysWith_25 X v1 σ Q) ∧ ((σ 42 8) = (σ 0 11) → (inI v1) ∧ (((σ 42 7) = v1 → Q 42 σ) ∧ (¬ (σ 42 7) = v1 → GX11_waysWith_25 X v1 σ Q))))) : GX11_waysWith_0 X v1 σ Q := by
  unfold GX11_waysWith_0
  refine V_rng (fun hR0 => ?_)
  have h := h hR0
  refine V_aload_n 0 rfl rfl dX11_waysWith_0 ?_
  refine V_getR (f := 4) ci_X11 sh_0 rfl (by decide) (c1 := 42) rfl dX11_waysWith_1 lk_RX11_f38 ?_
  refine V_getI (f := 8) ci_X9 sh_42 rfl (by decide) dX11_waysWith_4 lk_RX11_f209 ?_
  refine V_aload_n 0 rfl rfl dX11_waysWith_7 ?_
  refine V_getI (f := 11) ci_X11 sh_0 rfl (by decide) dX11_waysWith_8 lk_RX11_f99 ?_
  refine V_icmp_ne (tgt := 25) dX11_waysWith_11 (by decide) (show inI (σ 42 8) from (inI_sh hR0 sh_42 (by decide))) (show inI (σ 0 11) from (inI_sh hR0 sh_0 (by decide))) (fun q1 => ?_) (fun q1 => ?_)
  · have h := h.1 q1
    exact h
  · have h := h.2 q1
    refine V_aload_n 0 rfl rfl dX11_waysWith_14 ?_
    refine V_getR (f := 4) ci_X11 sh_0 rfl (by decide) (c1 := 42) rfl dX11_waysWith_15 lk_RX11_f38 ?_
    refine V_getI (f := 7) ci_X9 sh_42 rfl (by decide) dX11_waysWith_18 lk_RX11_f212 ?_
    refine V_iload_n 1 rfl rfl dX11_waysWith_21 ?_
    obtain ⟨g2, h⟩ := h
    refine V_icmp_eq (tgt := 53) dX11_waysWith_22 (by decide) (show inI (σ 42 7) from (inI_sh hR0 sh_42 (by decide))) g2 (fun q3 => ?_) (fun q3 => ?_)
    · have h := h.1 q3
      refine V_aload_n 0 rfl rfl dX11_waysWith_53 ?_
      refine V_getR (f := 4) ci_X11 sh_0 rfl (by decide) (c1 := 42) rfl dX11_waysWith_54 lk_RX11_f38 ?_
      exact V_aret rfl dX11_waysWith_57 h
    · have h := h.2 q3
      exact h
set_option maxHeartbeats 2000000 in
set_option maxRecDepth 20000 in
theorem rX11_waysWith_25 {X : Cx} {v1 : Int} {σ : Sg} {Q : Int → Sg → Prop} (h : Rng σ → KX9_fill X 42 v1 0 σ (fun r1 σ2 => Rng σ2 → Q 42 (up2 σ2 42 8 (σ2 0 11)))) : GX11_waysWith_25 X v1 σ Q := by
  unfold GX11_waysWith_25
  refine V_rng (fun hR0 => ?_)
  have h := h hR0
  refine V_aload_n 0 rfl rfl dX11_waysWith_25 ?_
  refine V_getR (f := 4) ci_X11 sh_0 rfl (by decide) (c1 := 42) rfl dX11_waysWith_26 lk_RX11_f38 ?_
  refine V_aload_n 0 rfl rfl dX11_waysWith_29 ?_
  refine V_getR (f := 0) ci_X11 sh_0 rfl (by decide) (c1 := 1) rfl dX11_waysWith_30 lk_RX11_f10 ?_
  refine V_aload_n 0 rfl rfl dX11_waysWith_33 ?_
  refine V_getR (f := 1) ci_X11 sh_0 rfl (by decide) (c1 := 11) rfl dX11_waysWith_34 lk_RX11_f18 ?_
  refine V_iload_n 1 rfl rfl dX11_waysWith_37 ?_
  refine V_iconst dX11_waysWith_38 ?_
  refine V_cV (M' := mX9_fill) (As := [.ref (cxA X 1), .ref (cxA X 11), .int (gI v1), .int (gI 0)]) (fun _ => []) ok_X9_fill ok2_X9_fill sh_42 rfl (by decide) rfl rfl (Nat.le_of_ble_eq_true rfl) dX11_waysWith_39 lk_RX11_m215 (by decide) (fun _ => rfl) h (fun r1 σ2 h => ?_)
  refine V_rng (fun hR3 => ?_)
  have h := h hR3
  refine V_aload_n 0 rfl rfl dX11_waysWith_42 ?_
  refine V_getR (f := 4) ci_X11 sh_0 rfl (by decide) (c1 := 42) rfl dX11_waysWith_43 lk_RX11_f38 ?_
  refine V_aload_n 0 rfl rfl dX11_waysWith_46 ?_
  refine V_getI (f := 11) ci_X11 sh_0 rfl (by decide) dX11_waysWith_47 lk_RX11_f99 ?_
  refine V_putI (f := 8) ci_X9 sh_42 rfl (by decide) rfl rfl (show inI (σ2 0 11) from (inI_sh hR3 sh_0 (by decide))) dX11_waysWith_50 lk_RX11_f209 ?_
  refine V_aload_n 0 rfl rfl dX11_waysWith_53 ?_
  refine V_getR (f := 4) ci_X11 sh_0 rfl (by decide) (c1 := 42) rfl dX11_waysWith_54 lk_RX11_f38 ?_
  exact V_aret rfl dX11_waysWith_57 h
theorem eX11_waysWith {X : Cx} {v1 : Int} {σ : Sg} {Q : Int → Sg → Prop} (h : GX11_waysWith_0 X v1 σ Q) : KX11_waysWith X v1 σ Q := V_enter (by decide) (Nat.le_of_ble_eq_true rfl) rfl h
def GX11_cheapest_0 (X : Cx) (v1 : Int) (v2 : Int) (v3 : Int) (σ : Sg) (Q : Int → Sg → Prop) : Prop := VV X mX11_cheapest 0 [(0, .ref (cxA X 0)), (1, .int (gI v1)), (2, .int (gI v2)), (3, .int (gI v3))] [] σ Q
set_option maxHeartbeats 2000000 in
set_option maxRecDepth 20000 in
theorem rX11_cheapest_0 {X : Cx} {v1 : Int} {v2 : Int} {v3 : Int} {σ : Sg} {Q : Int → Sg → Prop} (h : Rng σ → KX5_all X σ (fun r1 σ2 => Rng σ2 → KX11_isWithin X v1 (r1 + 1) σ2 (fun r4 σ5 => Rng σ5 → (inI r4) ∧ ((r4 = 0 → Q ((-3)) σ5) ∧ (¬ r4 = 0 → KX10_areWords X v2 σ5 (fun r9 σ10 => Rng σ10 → (inI r9) ∧ ((r9 = 0 → Q ((-3)) σ10) ∧ (¬ r9 = 0 → (inI v3) ∧ ((((-2)) ≤ v3 → KX11_waysWith X v2 σ10 (fun r16 σ17 => Rng σ17 → r16 = 42 ∧ KX9_isReached X 42 v1 σ17 (fun r19 σ20 => Rng σ20 → (inI r19) ∧ ((¬ r19 = 0 → (inI v3) ∧ ((v3 = (-2) → (0 ≤ v1 ∧ v1 < 256) ∧ Q (σ20 44 v1.toNat) σ20) ∧ (v3 = (-1) → (0 ≤ v1 ∧ v1 < 256) ∧ Q (σ20 43 v1.toNat) σ20) ∧ (¬ v3 = (-2) ∧ ¬ v3 = (-1) → (0 ≤ v1 ∧ v1 < 256) ∧ (inI v3) ∧ (((σ20 44 v1.toNat) ≤ v3 → Q ((-1)) σ20) ∧ (v3 < (σ20 44 v1.toNat) → KX9_codeAt X 42 v1 v3 σ20 (fun r31 σ32 => Rng σ32 → Q r31 σ32)))))) ∧ (r19 = 0 → Q ((-1)) σ20))))) ∧ (v3 < ((-2)) → Q ((-3)) σ10)))))))))) : GX11_cheapest_0 X v1 v2 v3 σ Q := by
  unfold GX11_cheapest_0
  refine V_rng (fun hR0 => ?_)
  have h := h hR0
  refine V_iload_n 1 rfl rfl dX11_cheapest_0 ?_
  refine V_aload_n 0 rfl rfl dX11_cheapest_1 ?_
  refine V_getR (f := 0) ci_X11 sh_0 rfl (by decide) (c1 := 1) rfl dX11_cheapest_2 lk_RX11_f10 ?_
  refine V_cV (M' := mX5_all) (As := []) (fun r => [.int (gI r), .int (gI v1)]) ok_X5_all ok2_X5_all sh_1 rfl (by decide) rfl rfl (Nat.le_of_ble_eq_true rfl) dX11_cheapest_5 lk_RX11_m160 (by decide) (fun _ => rfl) h (fun r1 σ2 h => ?_)
  refine V_rng (fun hR3 => ?_)
  have h := h hR3
  refine V_iconst dX11_cheapest_8 ?_
  refine V_iadd dX11_cheapest_9 ?_
  refine V_cS (M' := mX11_isWithin) (As := [.int (gI v1), .int (gI (r1 + 1))]) (fun r => [.int (gI r)]) ok_X11_isWithin ok2_X11_isWithin rfl rfl (Nat.le_of_ble_eq_true rfl) dX11_cheapest_10 lk_RX11_m88 (by decide) (fun _ => rfl) h (fun r4 σ5 h => ?_)
  refine V_rng (fun hR6 => ?_)
  have h := h hR6
  obtain ⟨g7, h⟩ := h
  refine V_if_eq (tgt := 29) dX11_cheapest_13 (by decide) g7 (fun q8 => ?_) (fun q8 => ?_)
  · have h := h.1 q8
    refine V_bipush (v := -3) (by decide) dX11_cheapest_29 ?_
    exact V_iret rfl (fun _ q => by cases q) (vp_nar_int _) dX11_cheapest_31 h
  · have h := h.2 q8
    refine V_iload_n 2 rfl rfl dX11_cheapest_16 ?_
    refine V_cS (M' := mX10_areWords) (As := [.int (gI v2)]) (fun r => [.int (gI r)]) ok_X10_areWords ok2_X10_areWords rfl rfl (Nat.le_of_ble_eq_true rfl) dX11_cheapest_17 lk_RX11_m163 (by decide) (fun _ => rfl) h (fun r9 σ10 h => ?_)
    refine V_rng (fun hR11 => ?_)
    have h := h hR11
    obtain ⟨g12, h⟩ := h
    refine V_if_eq (tgt := 29) dX11_cheapest_20 (by decide) g12 (fun q13 => ?_) (fun q13 => ?_)
    · have h := h.1 q13
      refine V_bipush (v := -3) (by decide) dX11_cheapest_29 ?_
      exact V_iret rfl (fun _ q => by cases q) (vp_nar_int _) dX11_cheapest_31 h
    · have h := h.2 q13
      refine V_iload_n 3 rfl rfl dX11_cheapest_23 ?_
      refine V_bipush (v := -2) (by decide) dX11_cheapest_24 ?_
      obtain ⟨g14, h⟩ := h
      refine V_icmp_ge (tgt := 32) dX11_cheapest_26 (by decide) g14 (by decide) (fun q15 => ?_) (fun q15 => ?_)
      · have h := h.1 q15
        refine V_aload_n 0 rfl rfl dX11_cheapest_32 ?_
        refine V_iload_n 2 rfl rfl dX11_cheapest_33 ?_
        refine V_cV (M' := mX11_waysWith) (As := [.int (gI v2)]) (fun r => [.ref (cxA X r.toNat)]) ok_X11_waysWith ok2_X11_waysWith sh_0 rfl (by decide) rfl rfl (Nat.le_of_ble_eq_true rfl) dX11_cheapest_34 lk_RX11_m166 (by decide) (fun _ => rfl) h (fun r16 σ17 h => ?_)
        refine V_rng (fun hR18 => ?_)
        have h := h hR18
        obtain ⟨hw, hk⟩ := h
        subst hw
        have h := hk
        refine V_astore (L' := [(4, .ref (cxA X 42)), (0, .ref (cxA X 0)), (1, .int (gI v1)), (2, .int (gI v2)), (3, .int (gI v3))]) (by decide) rfl dX11_cheapest_37 ?_
        refine V_aload 0 rfl dX11_cheapest_39 ?_
        refine V_iload_n 2 rfl rfl dX11_cheapest_41 ?_
        refine V_cV (M' := mX9_isReached) (As := [.int (gI v1)]) (fun r => [.int (gI r)]) ok_X9_isReached ok2_X9_isReached sh_42 rfl (by decide) rfl rfl (Nat.le_of_ble_eq_true rfl) dX11_cheapest_42 lk_RX11_m170 (by decide) (fun _ => rfl) h (fun r19 σ20 h => ?_)
        refine V_rng (fun hR21 => ?_)
        have h := h hR21
        obtain ⟨g22, h⟩ := h
        refine V_if_ne (tgt := 50) dX11_cheapest_45 (by decide) g22 (fun q23 => ?_) (fun q23 => ?_)
        · have h := h.1 q23
          refine V_iload_n 4 rfl rfl dX11_cheapest_50 ?_
          obtain ⟨g24, h⟩ := h
          rcases (show v3 = (-2) ∨ v3 = (-1) ∨ (¬ v3 = (-2) ∧ ¬ v3 = (-1)) by omega) with q25 | q25 | q25
          · have h := h.1 q25
            refine V_lsw (tgt := 84) (off := 33) dX11_cheapest_51 g24 (by decide) (by rw [q25]; decide) (by decide) ?_
            refine V_aload 0 rfl dX11_cheapest_84 ?_
            refine V_getR (f := 1) ci_X9 sh_42 rfl (by decide) (c1 := 44) rfl dX11_cheapest_86 lk_RX11_f176 ?_
            refine V_iload_n 2 rfl rfl dX11_cheapest_89 ?_
            obtain ⟨g26, h⟩ := h
            refine V_iald sh_44 (by decide) g26 dX11_cheapest_90 ?_
            exact V_iret rfl (fun _ q => by cases q) (vp_nar_int _) dX11_cheapest_91 h
          · have h := h.2.1 q25
            refine V_lsw (tgt := 76) (off := 25) dX11_cheapest_51 g24 (by decide) (by rw [q25]; decide) (by decide) ?_
            refine V_aload 0 rfl dX11_cheapest_76 ?_
            refine V_getR (f := 0) ci_X9 sh_42 rfl (by decide) (c1 := 43) rfl dX11_cheapest_78 lk_RX11_f173 ?_
            refine V_iload_n 2 rfl rfl dX11_cheapest_81 ?_
            obtain ⟨g27, h⟩ := h
            refine V_iald sh_43 (by decide) g27 dX11_cheapest_82 ?_
            exact V_iret rfl (fun _ q => by cases q) (vp_nar_int _) dX11_cheapest_83 h
          · have h := h.2.2 q25
            refine V_lsw (tgt := 92) (off := 41) dX11_cheapest_51 g24 (by decide) (by simp only [Op.lookupswitch.offset_cons]; rw [if_neg (by omega), if_neg (by omega)]; rfl) (by decide) ?_
            refine V_iload_n 4 rfl rfl dX11_cheapest_92 ?_
            refine V_aload 0 rfl dX11_cheapest_93 ?_
            refine V_getR (f := 1) ci_X9 sh_42 rfl (by decide) (c1 := 44) rfl dX11_cheapest_95 lk_RX11_f176 ?_
            refine V_iload_n 2 rfl rfl dX11_cheapest_98 ?_
            obtain ⟨g28, h⟩ := h
            refine V_iald sh_44 (by decide) g28 dX11_cheapest_99 ?_
            obtain ⟨g29, h⟩ := h
            refine V_icmp_ge (tgt := 113) dX11_cheapest_100 (by decide) g29 (show inI (σ20 44 v1.toNat) from (inI_sh hR21 sh_44 (by decide))) (fun q30 => ?_) (fun q30 => ?_)
            · have h := h.1 q30
              refine V_iconst dX11_cheapest_113 ?_
              exact V_iret rfl (fun _ q => by cases q) (vp_nar_int _) dX11_cheapest_114 h
            · have h := h.2 q30
              refine V_aload 0 rfl dX11_cheapest_103 ?_
              refine V_iload_n 2 rfl rfl dX11_cheapest_105 ?_
              refine V_iload_n 4 rfl rfl dX11_cheapest_106 ?_
              refine V_cV (M' := mX9_codeAt) (As := [.int (gI v1), .int (gI v3)]) (fun r => [.int (gI r)]) ok_X9_codeAt ok2_X9_codeAt sh_42 rfl (by decide) rfl rfl (Nat.le_of_ble_eq_true rfl) dX11_cheapest_107 lk_RX11_m179 (by decide) (fun _ => rfl) h (fun r31 σ32 h => ?_)
              refine V_rng (fun hR33 => ?_)
              have h := h hR33
              refine V_goto (tgt := 114) dX11_cheapest_110 (by decide) ?_
              exact V_iret rfl (fun _ q => by cases q) (vp_nar_int _) dX11_cheapest_114 h
        · have h := h.2 q23
          refine V_iconst dX11_cheapest_48 ?_
          exact V_iret rfl (fun _ q => by cases q) (vp_nar_int _) dX11_cheapest_49 h
      · have h := h.2 q15
        refine V_bipush (v := -3) (by decide) dX11_cheapest_29 ?_
        exact V_iret rfl (fun _ q => by cases q) (vp_nar_int _) dX11_cheapest_31 h
theorem eX11_cheapest {X : Cx} {v1 : Int} {v2 : Int} {v3 : Int} {σ : Sg} {Q : Int → Sg → Prop} (h : GX11_cheapest_0 X v1 v2 v3 σ Q) : KX11_cheapest X v1 v2 v3 σ Q := V_enter (by decide) (Nat.le_of_ble_eq_true rfl) rfl h
def GX11_sets_0 (X : Cx) (v1 : Int) (σ : Sg) (Q : Int → Sg → Prop) : Prop := VV X mX11_sets 0 [(0, .ref (cxA X 0)), (1, .int (gI v1))] [] σ Q
set_option maxHeartbeats 2000000 in
set_option maxRecDepth 20000 in
theorem rX11_sets_0 {X : Cx} {v1 : Int} {σ : Sg} {Q : Int → Sg → Prop} (h : Rng σ → KX10_areWords X v1 σ (fun r1 σ2 => Rng σ2 → (inI r1) ∧ ((r1 = 0 → Q ((-3)) σ2) ∧ (¬ r1 = 0 → KX11_waysWith X v1 σ2 (fun r6 σ7 => Rng σ7 → r6 = 42 ∧ Q (σ7 42 6) σ7))))) : GX11_sets_0 X v1 σ Q := by
  unfold GX11_sets_0
  refine V_rng (fun hR0 => ?_)
  have h := h hR0
  refine V_iload_n 1 rfl rfl dX11_sets_0 ?_
  refine V_cS (M' := mX10_areWords) (As := [.int (gI v1)]) (fun r => [.int (gI r)]) ok_X10_areWords ok2_X10_areWords rfl rfl (Nat.le_of_ble_eq_true rfl) dX11_sets_1 lk_RX11_m163 (by decide) (fun _ => rfl) h (fun r1 σ2 h => ?_)
  refine V_rng (fun hR3 => ?_)
  have h := h hR3
  obtain ⟨g4, h⟩ := h
  refine V_if_eq (tgt := 18) dX11_sets_4 (by decide) g4 (fun q5 => ?_) (fun q5 => ?_)
  · have h := h.1 q5
    refine V_bipush (v := -3) (by decide) dX11_sets_18 ?_
    exact V_iret rfl (fun _ q => by cases q) (vp_nar_int _) dX11_sets_20 h
  · have h := h.2 q5
    refine V_aload_n 0 rfl rfl dX11_sets_7 ?_
    refine V_iload_n 1 rfl rfl dX11_sets_8 ?_
    refine V_cV (M' := mX11_waysWith) (As := [.int (gI v1)]) (fun r => [.ref (cxA X r.toNat)]) ok_X11_waysWith ok2_X11_waysWith sh_0 rfl (by decide) rfl rfl (Nat.le_of_ble_eq_true rfl) dX11_sets_9 lk_RX11_m166 (by decide) (fun _ => rfl) h (fun r6 σ7 h => ?_)
    refine V_rng (fun hR8 => ?_)
    have h := h hR8
    obtain ⟨hw, hk⟩ := h
    subst hw
    have h := hk
    refine V_getI (f := 6) ci_X9 sh_42 rfl (by decide) dX11_sets_12 lk_RX11_f182 ?_
    refine V_goto (tgt := 20) dX11_sets_15 (by decide) ?_
    exact V_iret rfl (fun _ q => by cases q) (vp_nar_int _) dX11_sets_20 h
theorem eX11_sets {X : Cx} {v1 : Int} {σ : Sg} {Q : Int → Sg → Prop} (h : GX11_sets_0 X v1 σ Q) : KX11_sets X v1 σ Q := V_enter (by decide) (Nat.le_of_ble_eq_true rfl) rfl h
def GX11_quick_0 (X : Cx) (v1 : Int) (σ : Sg) (Q : Int → Sg → Prop) : Prop := VV X mX11_quick 0 [(0, .ref (cxA X 0)), (1, .int (gI v1))] [] σ Q
set_option maxHeartbeats 2000000 in
set_option maxRecDepth 20000 in
theorem rX11_quick_0 {X : Cx} {v1 : Int} {σ : Sg} {Q : Int → Sg → Prop} (h : Rng σ → KX5_has X v1 σ (fun r1 σ2 => Rng σ2 → (inI r1) ∧ ((r1 = 0 → Q ((-2)) σ2) ∧ (¬ r1 = 0 → KX3_cost X v1 σ2 (fun r6 σ7 => Rng σ7 → Q r6 σ7))))) : GX11_quick_0 X v1 σ Q := by
  unfold GX11_quick_0
  refine V_rng (fun hR0 => ?_)
  have h := h hR0
  refine V_aload_n 0 rfl rfl dX11_quick_0 ?_
  refine V_getR (f := 0) ci_X11 sh_0 rfl (by decide) (c1 := 1) rfl dX11_quick_1 lk_RX11_f10 ?_
  refine V_iload_n 1 rfl rfl dX11_quick_4 ?_
  refine V_cV (M' := mX5_has) (As := [.int (gI v1)]) (fun r => [.int (gI r)]) ok_X5_has ok2_X5_has sh_1 rfl (by decide) rfl rfl (Nat.le_of_ble_eq_true rfl) dX11_quick_5 lk_RX11_m106 (by decide) (fun _ => rfl) h (fun r1 σ2 h => ?_)
  refine V_rng (fun hR3 => ?_)
  have h := h hR3
  obtain ⟨g4, h⟩ := h
  refine V_if_eq (tgt := 26) dX11_quick_8 (by decide) g4 (fun q5 => ?_) (fun q5 => ?_)
  · have h := h.1 q5
    refine V_bipush (v := -2) (by decide) dX11_quick_26 ?_
    exact V_iret rfl (fun _ q => by cases q) (vp_nar_int _) dX11_quick_28 h
  · have h := h.2 q5
    refine V_aload_n 0 rfl rfl dX11_quick_11 ?_
    refine V_getR (f := 0) ci_X11 sh_0 rfl (by decide) (c1 := 1) rfl dX11_quick_12 lk_RX11_f10 ?_
    refine V_aload_n 0 rfl rfl dX11_quick_15 ?_
    refine V_getR (f := 1) ci_X11 sh_0 rfl (by decide) (c1 := 11) rfl dX11_quick_16 lk_RX11_f18 ?_
    refine V_iload_n 1 rfl rfl dX11_quick_19 ?_
    refine V_cS (M' := mX3_cost) (As := [.ref (cxA X 1), .ref (cxA X 11), .int (gI v1)]) (fun r => [.int (gI r)]) ok_X3_cost ok2_X3_cost rfl rfl (Nat.le_of_ble_eq_true rfl) dX11_quick_20 lk_RX11_m185 (by decide) (fun _ => rfl) h (fun r6 σ7 h => ?_)
    refine V_rng (fun hR8 => ?_)
    have h := h hR8
    refine V_goto (tgt := 28) dX11_quick_23 (by decide) ?_
    exact V_iret rfl (fun _ q => by cases q) (vp_nar_int _) dX11_quick_28 h
theorem eX11_quick {X : Cx} {v1 : Int} {σ : Sg} {Q : Int → Sg → Prop} (h : GX11_quick_0 X v1 σ Q) : KX11_quick X v1 σ Q := V_enter (by decide) (Nat.le_of_ble_eq_true rfl) rfl h
def GX11_twin_0 (X : Cx) (v1 : Int) (v2 : Int) (σ : Sg) (Q : Int → Sg → Prop) : Prop := VV X mX11_twin 0 [(0, .ref (cxA X 0)), (1, .int (gI v1)), (2, .int (gI v2))] [] σ Q
set_option maxHeartbeats 2000000 in
set_option maxRecDepth 20000 in
theorem rX11_twin_0 {X : Cx} {v1 : Int} {v2 : Int} {σ : Sg} {Q : Int → Sg → Prop} (h : Rng σ → KX5_has X v1 σ (fun r1 σ2 => Rng σ2 → (inI r1) ∧ ((¬ r1 = 0 → KX11_isWithin X v2 3 σ2 (fun r6 σ7 => Rng σ7 → (inI r6) ∧ ((¬ r6 = 0 → KX8_find X σ7 (fun r11 σ12 => Rng σ12 → (inI v2) ∧ ((v2 = 0 → (0 ≤ v1 ∧ v1 < 8) ∧ KJ6_numberOfTrailingZeros_0f7a4 X (σ12 58 v1.toNat) σ12 (fun r17 σ18 => Rng σ18 → Q r17 σ18)) ∧ (v2 = 1 → (0 ≤ v1 ∧ v1 < 8) ∧ Q (σ12 59 v1.toNat) σ12) ∧ (¬ v2 = 0 ∧ ¬ v2 = 1 → KX8_sorts X (σ12 1 1) σ12 (fun r21 σ22 => Rng σ22 → Q r21 σ22))))) ∧ (r6 = 0 → Q ((-3)) σ7)))) ∧ (r1 = 0 → Q ((-2)) σ2)))) : GX11_twin_0 X v1 v2 σ Q := by
  unfold GX11_twin_0
  refine V_rng (fun hR0 => ?_)
  have h := h hR0
  refine V_aload_n 0 rfl rfl dX11_twin_0 ?_
  refine V_getR (f := 0) ci_X11 sh_0 rfl (by decide) (c1 := 1) rfl dX11_twin_1 lk_RX11_f10 ?_
  refine V_iload_n 1 rfl rfl dX11_twin_4 ?_
  refine V_cV (M' := mX5_has) (As := [.int (gI v1)]) (fun r => [.int (gI r)]) ok_X5_has ok2_X5_has sh_1 rfl (by decide) rfl rfl (Nat.le_of_ble_eq_true rfl) dX11_twin_5 lk_RX11_m106 (by decide) (fun _ => rfl) h (fun r1 σ2 h => ?_)
  refine V_rng (fun hR3 => ?_)
  have h := h hR3
  obtain ⟨g4, h⟩ := h
  refine V_if_ne (tgt := 14) dX11_twin_8 (by decide) g4 (fun q5 => ?_) (fun q5 => ?_)
  · have h := h.1 q5
    refine V_iload_n 2 rfl rfl dX11_twin_14 ?_
    refine V_iconst dX11_twin_15 ?_
    refine V_cS (M' := mX11_isWithin) (As := [.int (gI v2), .int (gI 3)]) (fun r => [.int (gI r)]) ok_X11_isWithin ok2_X11_isWithin rfl rfl (Nat.le_of_ble_eq_true rfl) dX11_twin_16 lk_RX11_m88 (by decide) (fun _ => rfl) h (fun r6 σ7 h => ?_)
    refine V_rng (fun hR8 => ?_)
    have h := h hR8
    obtain ⟨g9, h⟩ := h
    refine V_if_ne (tgt := 25) dX11_twin_19 (by decide) g9 (fun q10 => ?_) (fun q10 => ?_)
    · have h := h.1 q10
      refine V_aload_n 0 rfl rfl dX11_twin_25 ?_
      refine V_getR (f := 6) ci_X11 sh_0 rfl (by decide) (c1 := 57) rfl dX11_twin_26 lk_RX11_f52 ?_
      refine V_aload_n 0 rfl rfl dX11_twin_29 ?_
      refine V_getR (f := 0) ci_X11 sh_0 rfl (by decide) (c1 := 1) rfl dX11_twin_30 lk_RX11_f10 ?_
      refine V_cV (M' := mX8_find) (As := [.ref (cxA X 1)]) (fun _ => []) ok_X8_find ok2_X8_find sh_57 rfl (by decide) rfl rfl (Nat.le_of_ble_eq_true rfl) dX11_twin_33 lk_RX11_m190 (by decide) (fun _ => rfl) h (fun r11 σ12 h => ?_)
      refine V_rng (fun hR13 => ?_)
      have h := h hR13
      refine V_iload_n 2 rfl rfl dX11_twin_36 ?_
      obtain ⟨g14, h⟩ := h
      rcases (show v2 = 0 ∨ v2 = 1 ∨ (¬ v2 = 0 ∧ ¬ v2 = 1) by omega) with q15 | q15 | q15
      · have h := h.1 q15
        refine V_lsw (tgt := 64) (off := 27) dX11_twin_37 g14 (by decide) (by rw [q15]; decide) (by decide) ?_
        refine V_aload_n 0 rfl rfl dX11_twin_64 ?_
        refine V_getR (f := 6) ci_X11 sh_0 rfl (by decide) (c1 := 57) rfl dX11_twin_65 lk_RX11_f52 ?_
        refine V_getR (f := 0) ci_X8 sh_57 rfl (by decide) (c1 := 58) rfl dX11_twin_68 lk_RX11_f194 ?_
        refine V_iload_n 1 rfl rfl dX11_twin_71 ?_
        obtain ⟨g16, h⟩ := h
        refine V_iald sh_58 (by decide) g16 dX11_twin_72 ?_
        refine V_cS (M' := mJ6_numberOfTrailingZeros_0f7a4) (As := [.int (gI (σ12 58 v1.toNat))]) (fun r => [.int (gI r)]) ok_J6_numberOfTrailingZeros_0f7a4 ok2_J6_numberOfTrailingZeros_0f7a4 rfl rfl (Nat.le_of_ble_eq_true rfl) dX11_twin_73 lk_RX11_m197 (by decide) (fun _ => rfl) h (fun r17 σ18 h => ?_)
        refine V_rng (fun hR19 => ?_)
        have h := h hR19
        exact V_iret rfl (fun _ q => by cases q) (vp_nar_int _) dX11_twin_76 h
      · have h := h.2.1 q15
        refine V_lsw (tgt := 77) (off := 40) dX11_twin_37 g14 (by decide) (by rw [q15]; decide) (by decide) ?_
        refine V_aload_n 0 rfl rfl dX11_twin_77 ?_
        refine V_getR (f := 6) ci_X11 sh_0 rfl (by decide) (c1 := 57) rfl dX11_twin_78 lk_RX11_f52 ?_
        refine V_getR (f := 1) ci_X8 sh_57 rfl (by decide) (c1 := 59) rfl dX11_twin_81 lk_RX11_f203 ?_
        refine V_iload_n 1 rfl rfl dX11_twin_84 ?_
        obtain ⟨g20, h⟩ := h
        refine V_iald sh_59 (by decide) g20 dX11_twin_85 ?_
        exact V_iret rfl (fun _ q => by cases q) (vp_nar_int _) dX11_twin_86 h
      · have h := h.2.2 q15
        refine V_lsw (tgt := 87) (off := 50) dX11_twin_37 g14 (by decide) (by simp only [Op.lookupswitch.offset_cons]; rw [if_neg (by omega), if_neg (by omega)]; rfl) (by decide) ?_
        refine V_aload_n 0 rfl rfl dX11_twin_87 ?_
        refine V_getR (f := 6) ci_X11 sh_0 rfl (by decide) (c1 := 57) rfl dX11_twin_88 lk_RX11_f52 ?_
        refine V_aload_n 0 rfl rfl dX11_twin_91 ?_
        refine V_getR (f := 0) ci_X11 sh_0 rfl (by decide) (c1 := 1) rfl dX11_twin_92 lk_RX11_f10 ?_
        refine V_getI (f := 1) ci_X5 sh_1 rfl (by decide) dX11_twin_95 lk_RX11_f95 ?_
        refine V_cV (M' := mX8_sorts) (As := [.int (gI (σ12 1 1))]) (fun r => [.int (gI r)]) ok_X8_sorts ok2_X8_sorts sh_57 rfl (by decide) rfl rfl (Nat.le_of_ble_eq_true rfl) dX11_twin_98 lk_RX11_m206 (by decide) (fun _ => rfl) h (fun r21 σ22 h => ?_)
        refine V_rng (fun hR23 => ?_)
        have h := h hR23
        exact V_iret rfl (fun _ q => by cases q) (vp_nar_int _) dX11_twin_101 h
    · have h := h.2 q10
      refine V_bipush (v := -3) (by decide) dX11_twin_22 ?_
      exact V_iret rfl (fun _ q => by cases q) (vp_nar_int _) dX11_twin_24 h
  · have h := h.2 q5
    refine V_bipush (v := -2) (by decide) dX11_twin_11 ?_
    exact V_iret rfl (fun _ q => by cases q) (vp_nar_int _) dX11_twin_13 h
theorem eX11_twin {X : Cx} {v1 : Int} {v2 : Int} {σ : Sg} {Q : Int → Sg → Prop} (h : GX11_twin_0 X v1 v2 σ Q) : KX11_twin X v1 v2 σ Q := V_enter (by decide) (Nat.le_of_ble_eq_true rfl) rfl h
def GX11_firstBreak_0 (X : Cx) (σ : Sg) (Q : Int → Sg → Prop) : Prop := VV X mX11_firstBreak 0 [(0, .ref (cxA X 0)), (1, .ref (cxA X 14))] [] σ Q
def GX11_firstBreak_22 (X : Cx) (v2 : Int) (v4 : Int) (σ : Sg) (Q : Int → Sg → Prop) : Prop := VV X mX11_firstBreak 22 [(0, .ref (cxA X 0)), (1, .ref (cxA X 14)), (2, .int (gI v2)), (3, .ref (cxA X 4)), (4, .int (gI v4))] [] σ Q
def GX11_firstBreak_50 (X : Cx) (v2 : Int) (v4 : Int) (v5 : Int) (v6 : Int) (σ : Sg) (Q : Int → Sg → Prop) : Prop := VV X mX11_firstBreak 50 [(0, .ref (cxA X 0)), (1, .ref (cxA X 14)), (2, .int (gI v2)), (3, .ref (cxA X 4)), (4, .int (gI v4)), (5, .int (gI v5)), (6, .int (gI v6))] [] σ Q
set_option maxHeartbeats 2000000 in
set_option maxRecDepth 20000 in
theorem rX11_firstBreak_0 {X : Cx} {σ : Sg} {Q : Int → Sg → Prop} (h : Rng σ → KX4_meaning X 14 σ (fun r1 σ2 => Rng σ2 → GX11_firstBreak_22 X r1 0 σ2 Q)) : GX11_firstBreak_0 X σ Q := by
  unfold GX11_firstBreak_0
  refine V_rng (fun hR0 => ?_)
  have h := h hR0
  refine V_aload_n 1 rfl rfl dX11_firstBreak_0 ?_
  refine V_aload_n 0 rfl rfl dX11_firstBreak_1 ?_
  refine V_getR (f := 0) ci_X11 sh_0 rfl (by decide) (c1 := 1) rfl dX11_firstBreak_2 lk_RX11_f10 ?_
  refine V_cV (M' := mX4_meaning) (As := [.ref (cxA X 1)]) (fun r => [.int (gI r)]) ok_X4_meaning ok2_X4_meaning sh_14 rfl (by decide) rfl rfl (Nat.le_of_ble_eq_true rfl) dX11_firstBreak_5 lk_RX11_m149 (by decide) (fun _ => rfl) h (fun r1 σ2 h => ?_)
  refine V_rng (fun hR3 => ?_)
  have h := h hR3
  refine V_istore_n (L' := [(2, .int (gI r1)), (0, .ref (cxA X 0)), (1, .ref (cxA X 14))]) rfl (by decide) rfl dX11_firstBreak_8 ?_
  refine V_aload_n 1 rfl rfl dX11_firstBreak_9 ?_
  refine V_getR (f := 0) ci_X11 sh_0 rfl (by decide) (c1 := 1) rfl dX11_firstBreak_10 lk_RX11_f10 ?_
  refine V_getR (f := 0) ci_X5 sh_1 rfl (by decide) (c1 := 2) rfl dX11_firstBreak_13 lk_RX11_f109 ?_
  refine V_iconst dX11_firstBreak_16 ?_
  refine V_aald (c1 := 4) sh_2 (by decide) (by decide) rfl dX11_firstBreak_17 ?_
  refine V_astore_n (L' := [(3, .ref (cxA X 4)), (2, .int (gI r1)), (0, .ref (cxA X 0)), (1, .ref (cxA X 14))]) rfl (by decide) rfl dX11_firstBreak_18 ?_
  refine V_iconst dX11_firstBreak_19 ?_
  refine V_istore (L' := [(4, .int (gI 0)), (3, .ref (cxA X 4)), (2, .int (gI r1)), (0, .ref (cxA X 0)), (1, .ref (cxA X 14))]) (by decide) rfl dX11_firstBreak_20 ?_
  exact V_sub [3, 4, 2, 1, 0] rfl h
set_option maxHeartbeats 2000000 in
set_option maxRecDepth 20000 in
theorem rX11_firstBreak_22 {X : Cx} {v2 : Int} {v4 : Int} {σ : Sg} {Q : Int → Sg → Prop} (h : Rng σ → (inI v4) ∧ (((σ 1 1) ≤ v4 → Q ((-1)) σ) ∧ (v4 < (σ 1 1) → (inI v4) ∧ ((8 ≤ v4 → Q ((-1)) σ) ∧ (v4 < 8 → (0 ≤ v4 ∧ v4 < 8) ∧ GX11_firstBreak_50 X v2 v4 (σ 4 v4.toNat) 0 σ Q))))) : GX11_firstBreak_22 X v2 v4 σ Q := by
  unfold GX11_firstBreak_22
  refine V_rng (fun hR0 => ?_)
  have h := h hR0
  refine V_iload 4 rfl dX11_firstBreak_22 ?_
  refine V_aload_n 0 rfl rfl dX11_firstBreak_24 ?_
  refine V_getR (f := 0) ci_X11 sh_0 rfl (by decide) (c1 := 1) rfl dX11_firstBreak_25 lk_RX11_f10 ?_
  refine V_getI (f := 1) ci_X5 sh_1 rfl (by decide) dX11_firstBreak_28 lk_RX11_f95 ?_
  obtain ⟨g1, h⟩ := h
  refine V_icmp_ge (tgt := 104) dX11_firstBreak_31 (by decide) g1 (show inI (σ 1 1) from (inI_sh hR0 sh_1 (by decide))) (fun q2 => ?_) (fun q2 => ?_)
  · have h := h.1 q2
    refine V_iconst dX11_firstBreak_104 ?_
    exact V_iret rfl (fun _ q => by cases q) (vp_nar_int _) dX11_firstBreak_105 h
  · have h := h.2 q2
    refine V_iload 4 rfl dX11_firstBreak_34 ?_
    refine V_bipush (v := 8) (by decide) dX11_firstBreak_36 ?_
    obtain ⟨g3, h⟩ := h
    refine V_icmp_ge (tgt := 104) dX11_firstBreak_38 (by decide) g3 (by decide) (fun q4 => ?_) (fun q4 => ?_)
    · have h := h.1 q4
      refine V_iconst dX11_firstBreak_104 ?_
      exact V_iret rfl (fun _ q => by cases q) (vp_nar_int _) dX11_firstBreak_105 h
    · have h := h.2 q4
      refine V_aload_n 3 rfl rfl dX11_firstBreak_41 ?_
      refine V_iload 4 rfl dX11_firstBreak_42 ?_
      obtain ⟨g5, h⟩ := h
      refine V_iald sh_4 (by decide) g5 dX11_firstBreak_44 ?_
      refine V_istore (L' := [(5, .int (gI (σ 4 v4.toNat))), (0, .ref (cxA X 0)), (1, .ref (cxA X 14)), (2, .int (gI v2)), (3, .ref (cxA X 4)), (4, .int (gI v4))]) (by decide) rfl dX11_firstBreak_45 ?_
      refine V_iconst dX11_firstBreak_47 ?_
      refine V_istore (L' := [(6, .int (gI 0)), (5, .int (gI (σ 4 v4.toNat))), (0, .ref (cxA X 0)), (1, .ref (cxA X 14)), (2, .int (gI v2)), (3, .ref (cxA X 4)), (4, .int (gI v4))]) (by decide) rfl dX11_firstBreak_48 ?_
      exact V_sub [2, 3, 4, 5, 6, 1, 0] rfl h
set_option maxHeartbeats 2000000 in
set_option maxRecDepth 20000 in
theorem rX11_firstBreak_50 {X : Cx} {v2 : Int} {v4 : Int} {v5 : Int} {v6 : Int} {σ : Sg} {Q : Int → Sg → Prop} (h : Rng σ → (inI v6) ∧ ((4 ≤ v6 → GX11_firstBreak_22 X v2 (v4 + 1) σ Q) ∧ (v6 < 4 → (0 ≤ v4 ∧ v4 < 8) ∧ (inI v6) ∧ KX4_meaning X 14 (up2 σ 4 v4.toNat v6) (fun r5 σ6 => Rng σ6 → (0 ≤ v4 ∧ v4 < 8) ∧ (inI v5) ∧ (inI r5) ∧ (inI v2) ∧ ((r5 = v2 → GX11_firstBreak_50 X v2 v4 v5 (v6 + 1) (up2 σ6 4 v4.toNat v5) Q) ∧ (¬ r5 = v2 → Q ((4 * v4) + v6) (up2 σ6 4 v4.toNat v5))))))) : GX11_firstBreak_50 X v2 v4 v5 v6 σ Q := by
  unfold GX11_firstBreak_50
  refine V_rng (fun hR0 => ?_)
  have h := h hR0
  refine V_iload 6 rfl dX11_firstBreak_50 ?_
  refine V_iconst dX11_firstBreak_52 ?_
  obtain ⟨g1, h⟩ := h
  refine V_icmp_ge (tgt := 98) dX11_firstBreak_53 (by decide) g1 (by decide) (fun q2 => ?_) (fun q2 => ?_)
  · have h := h.1 q2
    refine V_iinc (L' := [(4, .int (gI (v4 + 1))), (0, .ref (cxA X 0)), (1, .ref (cxA X 14)), (2, .int (gI v2)), (3, .ref (cxA X 4)), (5, .int (gI v5)), (6, .int (gI v6))]) 4 rfl (by decide) rfl dX11_firstBreak_98 ?_
    refine V_goto (tgt := 22) dX11_firstBreak_101 (by decide) ?_
    exact V_sub [1, 2, 3, 4, 0] rfl h
  · have h := h.2 q2
    refine V_aload_n 3 rfl rfl dX11_firstBreak_56 ?_
    refine V_iload 4 rfl dX11_firstBreak_57 ?_
    refine V_iload 6 rfl dX11_firstBreak_59 ?_
    obtain ⟨g3, h⟩ := h
    obtain ⟨g4, h⟩ := h
    refine V_iast sh_4 (by decide) g3 g4 dX11_firstBreak_61 ?_
    refine V_aload_n 1 rfl rfl dX11_firstBreak_62 ?_
    refine V_aload_n 0 rfl rfl dX11_firstBreak_63 ?_
    refine V_getR (f := 0) ci_X11 sh_0 rfl (by decide) (c1 := 1) rfl dX11_firstBreak_64 lk_RX11_f10 ?_
    refine V_cV (M' := mX4_meaning) (As := [.ref (cxA X 1)]) (fun r => [.int (gI r)]) ok_X4_meaning ok2_X4_meaning sh_14 rfl (by decide) rfl rfl (Nat.le_of_ble_eq_true rfl) dX11_firstBreak_67 lk_RX11_m149 (by decide) (fun _ => rfl) h (fun r5 σ6 h => ?_)
    refine V_rng (fun hR7 => ?_)
    have h := h hR7
    refine V_istore (L' := [(7, .int (gI r5)), (0, .ref (cxA X 0)), (1, .ref (cxA X 14)), (2, .int (gI v2)), (3, .ref (cxA X 4)), (4, .int (gI v4)), (5, .int (gI v5)), (6, .int (gI v6))]) (by decide) rfl dX11_firstBreak_70 ?_
    refine V_aload_n 4 rfl rfl dX11_firstBreak_72 ?_
    refine V_iload 5 rfl dX11_firstBreak_73 ?_
    refine V_iload 6 rfl dX11_firstBreak_75 ?_
    obtain ⟨g8, h⟩ := h
    obtain ⟨g9, h⟩ := h
    refine V_iast sh_4 (by decide) g8 g9 dX11_firstBreak_77 ?_
    refine V_iload 0 rfl dX11_firstBreak_78 ?_
    refine V_iload_n 3 rfl rfl dX11_firstBreak_80 ?_
    obtain ⟨g10, h⟩ := h
    obtain ⟨g11, h⟩ := h
    refine V_icmp_eq (tgt := 92) dX11_firstBreak_81 (by decide) g10 g11 (fun q12 => ?_) (fun q12 => ?_)
    · have h := h.1 q12
      refine V_iinc (L' := [(6, .int (gI (v6 + 1))), (7, .int (gI r5)), (0, .ref (cxA X 0)), (1, .ref (cxA X 14)), (2, .int (gI v2)), (3, .ref (cxA X 4)), (4, .int (gI v4)), (5, .int (gI v5))]) 7 rfl (by decide) rfl dX11_firstBreak_92 ?_
      refine V_goto (tgt := 50) dX11_firstBreak_95 (by decide) ?_
      exact V_sub [2, 3, 4, 5, 6, 7, 0] rfl h
    · have h := h.2 q12
      refine V_iconst dX11_firstBreak_84 ?_
      refine V_iload 5 rfl dX11_firstBreak_85 ?_
      refine V_imul dX11_firstBreak_87 ?_
      refine V_iload 7 rfl dX11_firstBreak_88 ?_
      refine V_iadd dX11_firstBreak_90 ?_
      exact V_iret rfl (fun _ q => by cases q) (vp_nar_int _) dX11_firstBreak_91 h
theorem eX11_firstBreak {X : Cx} {σ : Sg} {Q : Int → Sg → Prop} (h : GX11_firstBreak_0 X σ Q) : KX11_firstBreak X σ Q := V_enter (by decide) (Nat.le_of_ble_eq_true rfl) rfl h
def GX11_breaks_0 (X : Cx) (σ : Sg) (Q : Int → Sg → Prop) : Prop := VV X mX11_breaks 0 [(0, .ref (cxA X 0))] [] σ Q
set_option maxHeartbeats 2000000 in
set_option maxRecDepth 20000 in
theorem rX11_breaks_0 {X : Cx} {σ : Sg} {Q : Int → Sg → Prop} (h : Rng σ → KX7_read X σ (fun r1 σ2 => Rng σ2 → (inI r1) ∧ ((¬ r1 = ((-1)) → Q ((-4)) σ2) ∧ (r1 = ((-1)) → KX11_firstBreak X σ2 (fun r6 σ7 => Rng σ7 → Q r6 σ7))))) : GX11_breaks_0 X σ Q := by
  unfold GX11_breaks_0
  refine V_rng (fun hR0 => ?_)
  have h := h hR0
  refine V_aload_n 0 rfl rfl dX11_breaks_0 ?_
  refine V_getR (f := 2) ci_X11 sh_0 rfl (by decide) (c1 := 12) rfl dX11_breaks_1 lk_RX11_f25 ?_
  refine V_cV (M' := mX7_read) (As := []) (fun r => [.int (gI r)]) ok_X7_read ok2_X7_read sh_12 rfl (by decide) rfl rfl (Nat.le_of_ble_eq_true rfl) dX11_breaks_4 lk_RX11_m131 (by decide) (fun _ => rfl) h (fun r1 σ2 h => ?_)
  refine V_rng (fun hR3 => ?_)
  have h := h hR3
  refine V_iconst dX11_breaks_7 ?_
  obtain ⟨g4, h⟩ := h
  refine V_icmp_ne (tgt := 25) dX11_breaks_8 (by decide) g4 (by decide) (fun q5 => ?_) (fun q5 => ?_)
  · have h := h.1 q5
    refine V_bipush (v := -4) (by decide) dX11_breaks_25 ?_
    exact V_iret rfl (fun _ q => by cases q) (vp_nar_int _) dX11_breaks_27 h
  · have h := h.2 q5
    refine V_aload_n 0 rfl rfl dX11_breaks_11 ?_
    refine V_aload_n 0 rfl rfl dX11_breaks_12 ?_
    refine V_getR (f := 2) ci_X11 sh_0 rfl (by decide) (c1 := 12) rfl dX11_breaks_13 lk_RX11_f25 ?_
    refine V_getR (f := 1) ci_X7 sh_12 rfl (by decide) (c1 := 14) rfl dX11_breaks_16 lk_RX11_f134 ?_
    refine V_cV (M' := mX11_firstBreak) (As := [.ref (cxA X 14)]) (fun r => [.int (gI r)]) ok_X11_firstBreak ok2_X11_firstBreak sh_0 rfl (by decide) rfl rfl (Nat.le_of_ble_eq_true rfl) dX11_breaks_19 lk_RX11_m218 (by decide) (fun _ => rfl) h (fun r6 σ7 h => ?_)
    refine V_rng (fun hR8 => ?_)
    have h := h hR8
    refine V_goto (tgt := 27) dX11_breaks_22 (by decide) ?_
    exact V_iret rfl (fun _ q => by cases q) (vp_nar_int _) dX11_breaks_27 h
theorem eX11_breaks {X : Cx} {σ : Sg} {Q : Int → Sg → Prop} (h : GX11_breaks_0 X σ Q) : KX11_breaks X σ Q := V_enter (by decide) (Nat.le_of_ble_eq_true rfl) rfl h
def GX11_think_0 (X : Cx) (v1 : Int) (σ : Sg) (Q : Int → Sg → Prop) : Prop := VV X mX11_think 0 [(0, .ref (cxA X 0)), (1, .int (gI v1))] [] σ Q
def GX11_think_9 (X : Cx) (v1 : Int) (v2 : Int) (σ : Sg) (Q : Int → Sg → Prop) : Prop := VV X mX11_think 9 [(0, .ref (cxA X 0)), (1, .int (gI v1)), (2, .int (gI v2))] [] σ Q
def GX11_think_62 (X : Cx) (v1 : Int) (v2 : Int) (σ : Sg) (Q : Int → Sg → Prop) : Prop := VV X mX11_think 62 [(0, .ref (cxA X 0)), (1, .int (gI v1)), (2, .int (gI v2))] [] σ Q
def GX11_think_64 (X : Cx) (v1 : Int) (v2 : Int) (σ : Sg) (Q : Int → Sg → Prop) : Prop := VV X mX11_think 64 [(0, .ref (cxA X 0)), (1, .int (gI v1)), (2, .int (gI v2))] [] σ Q
set_option maxHeartbeats 2000000 in
set_option maxRecDepth 20000 in
theorem rX11_think_0 {X : Cx} {v1 : Int} {σ : Sg} {Q : Int → Sg → Prop} (h : Rng σ → KX1_start X σ (fun r1 σ2 => Rng σ2 → GX11_think_9 X v1 0 σ2 Q)) : GX11_think_0 X v1 σ Q := by
  unfold GX11_think_0
  refine V_rng (fun hR0 => ?_)
  have h := h hR0
  refine V_aload_n 0 rfl rfl dX11_think_0 ?_
  refine V_getR (f := 7) ci_X11 sh_0 rfl (by decide) (c1 := 61) rfl dX11_think_1 lk_RX11_f59 ?_
  refine V_cV (M' := mX1_start) (As := []) (fun _ => []) ok_X1_start ok2_X1_start sh_61 rfl (by decide) rfl rfl (Nat.le_of_ble_eq_true rfl) dX11_think_4 lk_RX11_m235 (by decide) (fun _ => rfl) h (fun r1 σ2 h => ?_)
  refine V_rng (fun hR3 => ?_)
  have h := h hR3
  refine V_iconst dX11_think_7 ?_
  refine V_istore_n (L' := [(2, .int (gI 0)), (0, .ref (cxA X 0)), (1, .int (gI v1))]) rfl (by decide) rfl dX11_think_8 ?_
  exact V_sub [1, 2, 0] rfl h
set_option maxHeartbeats 2000000 in
set_option maxRecDepth 20000 in
theorem rX11_think_9 {X : Cx} {v1 : Int} {v2 : Int} {σ : Sg} {Q : Int → Sg → Prop} (h : Rng σ → (inI v2) ∧ (((σ 0 10) ≤ v2 → GX11_think_62 X v1 v2 σ Q) ∧ (v2 < (σ 0 10) → (inI v2) ∧ ((8 ≤ v2 → GX11_think_62 X v1 v2 σ Q) ∧ (v2 < 8 → (0 ≤ v2 ∧ v2 < 8) ∧ KX4_meaning X (18 + 3 * v2.toNat) σ (fun r6 σ7 => Rng σ7 → (0 ≤ v2 ∧ v2 < 8) ∧ KX4_cost X (18 + 3 * v2.toNat) σ7 (fun r10 σ11 => Rng σ11 → KX1_add X r6 r10 σ11 (fun r13 σ14 => Rng σ14 → GX11_think_9 X v1 (v2 + 1) σ14 Q)))))))) : GX11_think_9 X v1 v2 σ Q := by
  unfold GX11_think_9
  refine V_rng (fun hR0 => ?_)
  have h := h hR0
  refine V_iload_n 2 rfl rfl dX11_think_9 ?_
  refine V_aload_n 0 rfl rfl dX11_think_10 ?_
  refine V_getI (f := 10) ci_X11 sh_0 rfl (by decide) dX11_think_11 lk_RX11_f142 ?_
  obtain ⟨g1, h⟩ := h
  refine V_icmp_ge (tgt := 62) dX11_think_14 (by decide) g1 (show inI (σ 0 10) from (inI_sh hR0 sh_0 (by decide))) (fun q2 => ?_) (fun q2 => ?_)
  · have h := h.1 q2
    exact h
  · have h := h.2 q2
    refine V_iload_n 2 rfl rfl dX11_think_17 ?_
    refine V_bipush (v := 8) (by decide) dX11_think_18 ?_
    obtain ⟨g3, h⟩ := h
    refine V_icmp_ge (tgt := 62) dX11_think_20 (by decide) g3 (by decide) (fun q4 => ?_) (fun q4 => ?_)
    · have h := h.1 q4
      exact h
    · have h := h.2 q4
      refine V_aload_n 0 rfl rfl dX11_think_23 ?_
      refine V_getR (f := 7) ci_X11 sh_0 rfl (by decide) (c1 := 61) rfl dX11_think_24 lk_RX11_f59 ?_
      refine V_aload_n 0 rfl rfl dX11_think_27 ?_
      refine V_getR (f := 3) ci_X11 sh_0 rfl (by decide) (c1 := 17) rfl dX11_think_28 lk_RX11_f31 ?_
      refine V_iload_n 2 rfl rfl dX11_think_31 ?_
      obtain ⟨g5, h⟩ := h
      refine V_aaldS (c1 := 18 + 3 * v2.toNat) sh_17 (by decide) g5 (by omega) dX11_think_32 ?_
      refine V_aload_n 0 rfl rfl dX11_think_33 ?_
      refine V_getR (f := 0) ci_X11 sh_0 rfl (by decide) (c1 := 1) rfl dX11_think_34 lk_RX11_f10 ?_
      refine V_cV (M' := mX4_meaning) (As := [.ref (cxA X 1)]) (fun r => [.int (gI r), .ref (cxA X 61)]) ok_X4_meaning ok2_X4_meaning (isSay_k v2.toNat (by omega)).1 rfl (by decide) rfl rfl (Nat.le_of_ble_eq_true rfl) dX11_think_37 lk_RX11_m149 (by decide) (fun _ => rfl) h (fun r6 σ7 h => ?_)
      refine V_rng (fun hR8 => ?_)
      have h := h hR8
      refine V_aload_n 0 rfl rfl dX11_think_40 ?_
      refine V_getR (f := 3) ci_X11 sh_0 rfl (by decide) (c1 := 17) rfl dX11_think_41 lk_RX11_f31 ?_
      refine V_iload_n 2 rfl rfl dX11_think_44 ?_
      obtain ⟨g9, h⟩ := h
      refine V_aaldS (c1 := 18 + 3 * v2.toNat) sh_17 (by decide) g9 (by omega) dX11_think_45 ?_
      refine V_aload_n 0 rfl rfl dX11_think_46 ?_
      refine V_getR (f := 1) ci_X11 sh_0 rfl (by decide) (c1 := 11) rfl dX11_think_47 lk_RX11_f18 ?_
      refine V_cV (M' := mX4_cost) (As := [.ref (cxA X 11)]) (fun r => [.int (gI r), .int (gI r6), .ref (cxA X 61)]) ok_X4_cost ok2_X4_cost (isSay_k v2.toNat (by omega)).1 rfl (by decide) rfl rfl (Nat.le_of_ble_eq_true rfl) dX11_think_50 lk_RX11_m153 (by decide) (fun _ => rfl) h (fun r10 σ11 h => ?_)
      refine V_rng (fun hR12 => ?_)
      have h := h hR12
      refine V_cV (M' := mX1_add) (As := [.int (gI r6), .int (gI r10)]) (fun _ => []) ok_X1_add ok2_X1_add sh_61 rfl (by decide) rfl rfl (Nat.le_of_ble_eq_true rfl) dX11_think_53 lk_RX11_m238 (by decide) (fun _ => rfl) h (fun r13 σ14 h => ?_)
      refine V_rng (fun hR15 => ?_)
      have h := h hR15
      refine V_iinc (L' := [(2, .int (gI (v2 + 1))), (0, .ref (cxA X 0)), (1, .int (gI v1))]) 2 rfl (by decide) rfl dX11_think_56 ?_
      refine V_goto (tgt := 9) dX11_think_59 (by decide) ?_
      exact V_sub [1, 2, 0] rfl h
set_option maxHeartbeats 2000000 in
set_option maxRecDepth 20000 in
theorem rX11_think_62 {X : Cx} {v1 : Int} {v2 : Int} {σ : Sg} {Q : Int → Sg → Prop} (h : Rng σ → GX11_think_64 X v1 0 σ Q) : GX11_think_62 X v1 v2 σ Q := by
  unfold GX11_think_62
  refine V_rng (fun hR0 => ?_)
  have h := h hR0
  refine V_iconst dX11_think_62 ?_
  refine V_istore_n (L' := [(2, .int (gI 0)), (0, .ref (cxA X 0)), (1, .int (gI v1))]) rfl (by decide) rfl dX11_think_63 ?_
  exact V_sub [1, 2, 0] rfl h
set_option maxHeartbeats 2000000 in
set_option maxRecDepth 20000 in
theorem rX11_think_64 {X : Cx} {v1 : Int} {v2 : Int} {σ : Sg} {Q : Int → Sg → Prop} (h : Rng σ → (inI v2) ∧ (inI v1) ∧ ((v1 ≤ v2 → Q 0 σ) ∧ (v2 < v1 → KX1_deepen X (σ 1 1) σ (fun r4 σ5 => Rng σ5 → GX11_think_64 X v1 (v2 + 1) σ5 Q)))) : GX11_think_64 X v1 v2 σ Q := by
  unfold GX11_think_64
  refine V_rng (fun hR0 => ?_)
  have h := h hR0
  refine V_iload_n 2 rfl rfl dX11_think_64 ?_
  refine V_iload_n 1 rfl rfl dX11_think_65 ?_
  obtain ⟨g1, h⟩ := h
  obtain ⟨g2, h⟩ := h
  refine V_icmp_ge (tgt := 90) dX11_think_66 (by decide) g1 g2 (fun q3 => ?_) (fun q3 => ?_)
  · have h := h.1 q3
    exact V_vret rfl dX11_think_90 h
  · have h := h.2 q3
    refine V_aload_n 0 rfl rfl dX11_think_69 ?_
    refine V_getR (f := 7) ci_X11 sh_0 rfl (by decide) (c1 := 61) rfl dX11_think_70 lk_RX11_f59 ?_
    refine V_aload_n 0 rfl rfl dX11_think_73 ?_
    refine V_getR (f := 0) ci_X11 sh_0 rfl (by decide) (c1 := 1) rfl dX11_think_74 lk_RX11_f10 ?_
    refine V_getI (f := 1) ci_X5 sh_1 rfl (by decide) dX11_think_77 lk_RX11_f95 ?_
    refine V_cV (M' := mX1_deepen) (As := [.int (gI (σ 1 1))]) (fun r => [.int (gI r)]) ok_X1_deepen ok2_X1_deepen sh_61 rfl (by decide) rfl rfl (Nat.le_of_ble_eq_true rfl) dX11_think_80 lk_RX11_m232 (by decide) (fun _ => rfl) h (fun r4 σ5 h => ?_)
    refine V_rng (fun hR6 => ?_)
    have h := h hR6
    refine V_pop rfl dX11_think_83 ?_
    refine V_iinc (L' := [(2, .int (gI (v2 + 1))), (0, .ref (cxA X 0)), (1, .int (gI v1))]) 2 rfl (by decide) rfl dX11_think_84 ?_
    refine V_goto (tgt := 64) dX11_think_87 (by decide) ?_
    exact V_sub [1, 2, 0] rfl h
theorem eX11_think {X : Cx} {v1 : Int} {σ : Sg} {Q : Int → Sg → Prop} (h : GX11_think_0 X v1 σ Q) : KX11_think X v1 σ Q := V_enter (by decide) (Nat.le_of_ble_eq_true rfl) rfl h
def GX11_hears_0 (X : Cx) (v1 : Int) (v2 : Int) (σ : Sg) (Q : Int → Sg → Prop) : Prop := VV X mX11_hears 0 [(0, .ref (cxA X 0)), (1, .int (gI v1)), (2, .int (gI v2))] [] σ Q
set_option maxHeartbeats 2000000 in
set_option maxRecDepth 20000 in
theorem rX11_hears_0 {X : Cx} {v1 : Int} {v2 : Int} {σ : Sg} {Q : Int → Sg → Prop} (h : Rng σ → KX11_isWithin X v1 (σ 0 10) σ (fun r1 σ2 => Rng σ2 → (inI r1) ∧ ((¬ r1 = 0 → KX11_isWithin X v2 21 σ2 (fun r6 σ7 => Rng σ7 → (inI r6) ∧ ((¬ r6 = 0 → KX11_think X v2 σ7 (fun r11 σ12 => Rng σ12 → (0 ≤ v1 ∧ v1 < 8) ∧ Q (σ12 62 v1.toNat) σ12)) ∧ (r6 = 0 → Q ((-3)) σ7)))) ∧ (r1 = 0 → Q ((-2)) σ2)))) : GX11_hears_0 X v1 v2 σ Q := by
  unfold GX11_hears_0
  refine V_rng (fun hR0 => ?_)
  have h := h hR0
  refine V_iload_n 1 rfl rfl dX11_hears_0 ?_
  refine V_aload_n 0 rfl rfl dX11_hears_1 ?_
  refine V_getI (f := 10) ci_X11 sh_0 rfl (by decide) dX11_hears_2 lk_RX11_f142 ?_
  refine V_cS (M' := mX11_isWithin) (As := [.int (gI v1), .int (gI (σ 0 10))]) (fun r => [.int (gI r)]) ok_X11_isWithin ok2_X11_isWithin rfl rfl (Nat.le_of_ble_eq_true rfl) dX11_hears_5 lk_RX11_m88 (by decide) (fun _ => rfl) h (fun r1 σ2 h => ?_)
  refine V_rng (fun hR3 => ?_)
  have h := h hR3
  obtain ⟨g4, h⟩ := h
  refine V_if_ne (tgt := 14) dX11_hears_8 (by decide) g4 (fun q5 => ?_) (fun q5 => ?_)
  · have h := h.1 q5
    refine V_iload_n 2 rfl rfl dX11_hears_14 ?_
    refine V_bipush (v := 21) (by decide) dX11_hears_15 ?_
    refine V_cS (M' := mX11_isWithin) (As := [.int (gI v2), .int (gI 21)]) (fun r => [.int (gI r)]) ok_X11_isWithin ok2_X11_isWithin rfl rfl (Nat.le_of_ble_eq_true rfl) dX11_hears_17 lk_RX11_m88 (by decide) (fun _ => rfl) h (fun r6 σ7 h => ?_)
    refine V_rng (fun hR8 => ?_)
    have h := h hR8
    obtain ⟨g9, h⟩ := h
    refine V_if_ne (tgt := 26) dX11_hears_20 (by decide) g9 (fun q10 => ?_) (fun q10 => ?_)
    · have h := h.1 q10
      refine V_aload_n 0 rfl rfl dX11_hears_26 ?_
      refine V_iload_n 2 rfl rfl dX11_hears_27 ?_
      refine V_cV (M' := mX11_think) (As := [.int (gI v2)]) (fun _ => []) ok_X11_think ok2_X11_think sh_0 rfl (by decide) rfl rfl (Nat.le_of_ble_eq_true rfl) dX11_hears_28 lk_RX11_m222 (by decide) (fun _ => rfl) h (fun r11 σ12 h => ?_)
      refine V_rng (fun hR13 => ?_)
      have h := h hR13
      refine V_aload_n 0 rfl rfl dX11_hears_31 ?_
      refine V_getR (f := 7) ci_X11 sh_0 rfl (by decide) (c1 := 61) rfl dX11_hears_32 lk_RX11_f59 ?_
      refine V_getR (f := 0) ci_X1 sh_61 rfl (by decide) (c1 := 62) rfl dX11_hears_35 lk_RX11_f226 ?_
      refine V_iload_n 1 rfl rfl dX11_hears_38 ?_
      obtain ⟨g14, h⟩ := h
      refine V_iald sh_62 (by decide) g14 dX11_hears_39 ?_
      exact V_iret rfl (fun _ q => by cases q) (vp_nar_int _) dX11_hears_40 h
    · have h := h.2 q10
      refine V_bipush (v := -3) (by decide) dX11_hears_23 ?_
      exact V_iret rfl (fun _ q => by cases q) (vp_nar_int _) dX11_hears_25 h
  · have h := h.2 q5
    refine V_bipush (v := -2) (by decide) dX11_hears_11 ?_
    exact V_iret rfl (fun _ q => by cases q) (vp_nar_int _) dX11_hears_13 h
theorem eX11_hears {X : Cx} {v1 : Int} {v2 : Int} {σ : Sg} {Q : Int → Sg → Prop} (h : GX11_hears_0 X v1 v2 σ Q) : KX11_hears X v1 v2 σ Q := V_enter (by decide) (Nat.le_of_ble_eq_true rfl) rfl h
def GX11_tells_0 (X : Cx) (v1 : Int) (v2 : Int) (σ : Sg) (Q : Int → Sg → Prop) : Prop := VV X mX11_tells 0 [(0, .ref (cxA X 0)), (1, .int (gI v1)), (2, .int (gI v2))] [] σ Q
set_option maxHeartbeats 2000000 in
set_option maxRecDepth 20000 in
theorem rX11_tells_0 {X : Cx} {v1 : Int} {v2 : Int} {σ : Sg} {Q : Int → Sg → Prop} (h : Rng σ → KX5_has X v1 σ (fun r1 σ2 => Rng σ2 → (inI r1) ∧ ((¬ r1 = 0 → KX11_isWithin X v2 21 σ2 (fun r6 σ7 => Rng σ7 → (inI r6) ∧ ((¬ r6 = 0 → KX11_think X v2 σ7 (fun r11 σ12 => Rng σ12 → KX1_saidOf X v1 σ12 (fun r14 σ15 => Rng σ15 → Q r14 σ15))) ∧ (r6 = 0 → Q ((-3)) σ7)))) ∧ (r1 = 0 → Q ((-2)) σ2)))) : GX11_tells_0 X v1 v2 σ Q := by
  unfold GX11_tells_0
  refine V_rng (fun hR0 => ?_)
  have h := h hR0
  refine V_aload_n 0 rfl rfl dX11_tells_0 ?_
  refine V_getR (f := 0) ci_X11 sh_0 rfl (by decide) (c1 := 1) rfl dX11_tells_1 lk_RX11_f10 ?_
  refine V_iload_n 1 rfl rfl dX11_tells_4 ?_
  refine V_cV (M' := mX5_has) (As := [.int (gI v1)]) (fun r => [.int (gI r)]) ok_X5_has ok2_X5_has sh_1 rfl (by decide) rfl rfl (Nat.le_of_ble_eq_true rfl) dX11_tells_5 lk_RX11_m106 (by decide) (fun _ => rfl) h (fun r1 σ2 h => ?_)
  refine V_rng (fun hR3 => ?_)
  have h := h hR3
  obtain ⟨g4, h⟩ := h
  refine V_if_ne (tgt := 14) dX11_tells_8 (by decide) g4 (fun q5 => ?_) (fun q5 => ?_)
  · have h := h.1 q5
    refine V_iload_n 2 rfl rfl dX11_tells_14 ?_
    refine V_bipush (v := 21) (by decide) dX11_tells_15 ?_
    refine V_cS (M' := mX11_isWithin) (As := [.int (gI v2), .int (gI 21)]) (fun r => [.int (gI r)]) ok_X11_isWithin ok2_X11_isWithin rfl rfl (Nat.le_of_ble_eq_true rfl) dX11_tells_17 lk_RX11_m88 (by decide) (fun _ => rfl) h (fun r6 σ7 h => ?_)
    refine V_rng (fun hR8 => ?_)
    have h := h hR8
    obtain ⟨g9, h⟩ := h
    refine V_if_ne (tgt := 26) dX11_tells_20 (by decide) g9 (fun q10 => ?_) (fun q10 => ?_)
    · have h := h.1 q10
      refine V_aload_n 0 rfl rfl dX11_tells_26 ?_
      refine V_iload_n 2 rfl rfl dX11_tells_27 ?_
      refine V_cV (M' := mX11_think) (As := [.int (gI v2)]) (fun _ => []) ok_X11_think ok2_X11_think sh_0 rfl (by decide) rfl rfl (Nat.le_of_ble_eq_true rfl) dX11_tells_28 lk_RX11_m222 (by decide) (fun _ => rfl) h (fun r11 σ12 h => ?_)
      refine V_rng (fun hR13 => ?_)
      have h := h hR13
      refine V_aload_n 0 rfl rfl dX11_tells_31 ?_
      refine V_getR (f := 7) ci_X11 sh_0 rfl (by decide) (c1 := 61) rfl dX11_tells_32 lk_RX11_f59 ?_
      refine V_iload_n 1 rfl rfl dX11_tells_35 ?_
      refine V_cV (M' := mX1_saidOf) (As := [.int (gI v1)]) (fun r => [.int (gI r)]) ok_X1_saidOf ok2_X1_saidOf sh_61 rfl (by decide) rfl rfl (Nat.le_of_ble_eq_true rfl) dX11_tells_36 lk_RX11_m229 (by decide) (fun _ => rfl) h (fun r14 σ15 h => ?_)
      refine V_rng (fun hR16 => ?_)
      have h := h hR16
      exact V_iret rfl (fun _ q => by cases q) (vp_nar_int _) dX11_tells_39 h
    · have h := h.2 q10
      refine V_bipush (v := -3) (by decide) dX11_tells_23 ?_
      exact V_iret rfl (fun _ q => by cases q) (vp_nar_int _) dX11_tells_25 h
  · have h := h.2 q5
    refine V_bipush (v := -2) (by decide) dX11_tells_11 ?_
    exact V_iret rfl (fun _ q => by cases q) (vp_nar_int _) dX11_tells_13 h
theorem eX11_tells {X : Cx} {v1 : Int} {v2 : Int} {σ : Sg} {Q : Int → Sg → Prop} (h : GX11_tells_0 X v1 v2 σ Q) : KX11_tells X v1 v2 σ Q := V_enter (by decide) (Nat.le_of_ble_eq_true rfl) rfl h
def GX11_ends_0 (X : Cx) (σ : Sg) (Q : Int → Sg → Prop) : Prop := VV X mX11_ends 0 [(0, .ref (cxA X 0))] [] σ Q
def GX11_ends_7 (X : Cx) (v1 : Int) (σ : Sg) (Q : Int → Sg → Prop) : Prop := VV X mX11_ends 7 [(0, .ref (cxA X 0)), (1, .int (gI v1))] [] σ Q
set_option maxHeartbeats 2000000 in
set_option maxRecDepth 20000 in
theorem rX11_ends_0 {X : Cx} {σ : Sg} {Q : Int → Sg → Prop} (h : Rng σ → KX11_think X 0 σ (fun r1 σ2 => Rng σ2 → GX11_ends_7 X 0 σ2 Q)) : GX11_ends_0 X σ Q := by
  unfold GX11_ends_0
  refine V_rng (fun hR0 => ?_)
  have h := h hR0
  refine V_aload_n 0 rfl rfl dX11_ends_0 ?_
  refine V_iconst dX11_ends_1 ?_
  refine V_cV (M' := mX11_think) (As := [.int (gI 0)]) (fun _ => []) ok_X11_think ok2_X11_think sh_0 rfl (by decide) rfl rfl (Nat.le_of_ble_eq_true rfl) dX11_ends_2 lk_RX11_m222 (by decide) (fun _ => rfl) h (fun r1 σ2 h => ?_)
  refine V_rng (fun hR3 => ?_)
  have h := h hR3
  refine V_iconst dX11_ends_5 ?_
  refine V_istore_n (L' := [(1, .int (gI 0)), (0, .ref (cxA X 0))]) rfl (by decide) rfl dX11_ends_6 ?_
  exact V_sub [1, 0] rfl h
set_option maxHeartbeats 2000000 in
set_option maxRecDepth 20000 in
theorem rX11_ends_7 {X : Cx} {v1 : Int} {σ : Sg} {Q : Int → Sg → Prop} (h : Rng σ → (inI v1) ∧ ((20 < v1 → Q ((-1)) σ) ∧ (v1 ≤ 20 → KX1_deepen X (σ 1 1) σ (fun r3 σ4 => Rng σ4 → (inI r3) ∧ ((¬ r3 = 0 → GX11_ends_7 X (v1 + 1) σ4 Q) ∧ (r3 = 0 → Q v1 σ4)))))) : GX11_ends_7 X v1 σ Q := by
  unfold GX11_ends_7
  refine V_rng (fun hR0 => ?_)
  have h := h hR0
  refine V_iload_n 1 rfl rfl dX11_ends_7 ?_
  refine V_bipush (v := 20) (by decide) dX11_ends_8 ?_
  obtain ⟨g1, h⟩ := h
  refine V_icmp_gt (tgt := 38) dX11_ends_10 (by decide) g1 (by decide) (fun q2 => ?_) (fun q2 => ?_)
  · have h := h.1 q2
    refine V_iconst dX11_ends_38 ?_
    exact V_iret rfl (fun _ q => by cases q) (vp_nar_int _) dX11_ends_39 h
  · have h := h.2 q2
    refine V_aload_n 0 rfl rfl dX11_ends_13 ?_
    refine V_getR (f := 7) ci_X11 sh_0 rfl (by decide) (c1 := 61) rfl dX11_ends_14 lk_RX11_f59 ?_
    refine V_aload_n 0 rfl rfl dX11_ends_17 ?_
    refine V_getR (f := 0) ci_X11 sh_0 rfl (by decide) (c1 := 1) rfl dX11_ends_18 lk_RX11_f10 ?_
    refine V_getI (f := 1) ci_X5 sh_1 rfl (by decide) dX11_ends_21 lk_RX11_f95 ?_
    refine V_cV (M' := mX1_deepen) (As := [.int (gI (σ 1 1))]) (fun r => [.int (gI r)]) ok_X1_deepen ok2_X1_deepen sh_61 rfl (by decide) rfl rfl (Nat.le_of_ble_eq_true rfl) dX11_ends_24 lk_RX11_m232 (by decide) (fun _ => rfl) h (fun r3 σ4 h => ?_)
    refine V_rng (fun hR5 => ?_)
    have h := h hR5
    obtain ⟨g6, h⟩ := h
    refine V_if_ne (tgt := 32) dX11_ends_27 (by decide) g6 (fun q7 => ?_) (fun q7 => ?_)
    · have h := h.1 q7
      refine V_iinc (L' := [(1, .int (gI (v1 + 1))), (0, .ref (cxA X 0))]) 1 rfl (by decide) rfl dX11_ends_32 ?_
      refine V_goto (tgt := 7) dX11_ends_35 (by decide) ?_
      exact V_sub [1, 0] rfl h
    · have h := h.2 q7
      refine V_iload_n 1 rfl rfl dX11_ends_30 ?_
      exact V_iret rfl (fun _ q => by cases q) (vp_nar_int _) dX11_ends_31 h
theorem eX11_ends {X : Cx} {σ : Sg} {Q : Int → Sg → Prop} (h : GX11_ends_0 X σ Q) : KX11_ends X σ Q := V_enter (by decide) (Nat.le_of_ble_eq_true rfl) rfl h
def GX11_wrong_0 (X : Cx) (v1 : Int) (σ : Sg) (Q : Int → Sg → Prop) : Prop := VV X mX11_wrong 0 [(0, .ref (cxA X 0)), (1, .int (gI v1))] [] σ Q
set_option maxHeartbeats 2000000 in
set_option maxRecDepth 20000 in
theorem rX11_wrong_0 {X : Cx} {v1 : Int} {σ : Sg} {Q : Int → Sg → Prop} (h : Rng σ → KX11_isWithin X v1 3 σ (fun r1 σ2 => Rng σ2 → (inI r1) ∧ ((¬ r1 = 0 → KX7_read X σ2 (fun r6 σ7 => Rng σ7 → (inI r6) ∧ ((r6 = ((-1)) → KX2_hear X σ7 (fun r11 σ12 => Rng σ12 → (inI v1) ∧ ((¬ v1 = 2 → ((¬ (σ12 65 1) = 0 → (inI v1) ∧ ((¬ v1 = 0 → (0 ≤ σ12 65 2 ∧ σ12 65 2 < 256) ∧ Q (σ12 66 ((σ12 65 2).toNat)) σ12) ∧ (v1 = 0 → Q (σ12 65 2) σ12))) ∧ ((σ12 65 1) = 0 → Q ((-1)) σ12))) ∧ (v1 = 2 → Q (σ12 65 1) σ12)))) ∧ (¬ r6 = ((-1)) → Q ((-4)) σ7)))) ∧ (r1 = 0 → Q ((-3)) σ2)))) : GX11_wrong_0 X v1 σ Q := by
  unfold GX11_wrong_0
  refine V_rng (fun hR0 => ?_)
  have h := h hR0
  refine V_iload_n 1 rfl rfl dX11_wrong_0 ?_
  refine V_iconst dX11_wrong_1 ?_
  refine V_cS (M' := mX11_isWithin) (As := [.int (gI v1), .int (gI 3)]) (fun r => [.int (gI r)]) ok_X11_isWithin ok2_X11_isWithin rfl rfl (Nat.le_of_ble_eq_true rfl) dX11_wrong_2 lk_RX11_m88 (by decide) (fun _ => rfl) h (fun r1 σ2 h => ?_)
  refine V_rng (fun hR3 => ?_)
  have h := h hR3
  obtain ⟨g4, h⟩ := h
  refine V_if_ne (tgt := 11) dX11_wrong_5 (by decide) g4 (fun q5 => ?_) (fun q5 => ?_)
  · have h := h.1 q5
    refine V_aload_n 0 rfl rfl dX11_wrong_11 ?_
    refine V_getR (f := 2) ci_X11 sh_0 rfl (by decide) (c1 := 12) rfl dX11_wrong_12 lk_RX11_f25 ?_
    refine V_cV (M' := mX7_read) (As := []) (fun r => [.int (gI r)]) ok_X7_read ok2_X7_read sh_12 rfl (by decide) rfl rfl (Nat.le_of_ble_eq_true rfl) dX11_wrong_15 lk_RX11_m131 (by decide) (fun _ => rfl) h (fun r6 σ7 h => ?_)
    refine V_rng (fun hR8 => ?_)
    have h := h hR8
    refine V_iconst dX11_wrong_18 ?_
    obtain ⟨g9, h⟩ := h
    refine V_icmp_eq (tgt := 25) dX11_wrong_19 (by decide) g9 (by decide) (fun q10 => ?_) (fun q10 => ?_)
    · have h := h.1 q10
      refine V_aload_n 0 rfl rfl dX11_wrong_25 ?_
      refine V_getR (f := 8) ci_X11 sh_0 rfl (by decide) (c1 := 65) rfl dX11_wrong_26 lk_RX11_f66 ?_
      refine V_aload_n 0 rfl rfl dX11_wrong_29 ?_
      refine V_getR (f := 0) ci_X11 sh_0 rfl (by decide) (c1 := 1) rfl dX11_wrong_30 lk_RX11_f10 ?_
      refine V_aload_n 0 rfl rfl dX11_wrong_33 ?_
      refine V_getR (f := 2) ci_X11 sh_0 rfl (by decide) (c1 := 12) rfl dX11_wrong_34 lk_RX11_f25 ?_
      refine V_getR (f := 1) ci_X7 sh_12 rfl (by decide) (c1 := 14) rfl dX11_wrong_37 lk_RX11_f134 ?_
      refine V_cV (M' := mX2_hear) (As := [.ref (cxA X 1), .ref (cxA X 14)]) (fun _ => []) ok_X2_hear ok2_X2_hear sh_65 rfl (by decide) rfl rfl (Nat.le_of_ble_eq_true rfl) dX11_wrong_40 lk_RX11_m241 (by decide) (fun _ => rfl) h (fun r11 σ12 h => ?_)
      refine V_rng (fun hR13 => ?_)
      have h := h hR13
      refine V_iload_n 1 rfl rfl dX11_wrong_43 ?_
      refine V_iconst dX11_wrong_44 ?_
      obtain ⟨g14, h⟩ := h
      refine V_icmp_ne (tgt := 56) dX11_wrong_45 (by decide) g14 (by decide) (fun q15 => ?_) (fun q15 => ?_)
      · have h := h.1 q15
        refine V_aload_n 0 rfl rfl dX11_wrong_56 ?_
        refine V_getR (f := 8) ci_X11 sh_0 rfl (by decide) (c1 := 65) rfl dX11_wrong_57 lk_RX11_f66 ?_
        refine V_getI (f := 1) ci_X2 sh_65 rfl (by decide) dX11_wrong_60 lk_RX11_f245 ?_
        refine V_if_ne (tgt := 68) dX11_wrong_63 (by decide) (show inI (σ12 65 1) from (inI_sh hR13 sh_65 (by decide))) (fun q16 => ?_) (fun q16 => ?_)
        · have h := h.1 q16
          refine V_iload_n 1 rfl rfl dX11_wrong_68 ?_
          obtain ⟨g17, h⟩ := h
          refine V_if_ne (tgt := 82) dX11_wrong_69 (by decide) g17 (fun q18 => ?_) (fun q18 => ?_)
          · have h := h.1 q18
            refine V_aload_n 0 rfl rfl dX11_wrong_82 ?_
            refine V_getR (f := 8) ci_X11 sh_0 rfl (by decide) (c1 := 65) rfl dX11_wrong_83 lk_RX11_f66 ?_
            refine V_getR (f := 0) ci_X2 sh_65 rfl (by decide) (c1 := 66) rfl dX11_wrong_86 lk_RX11_f251 ?_
            refine V_aload_n 0 rfl rfl dX11_wrong_89 ?_
            refine V_getR (f := 8) ci_X11 sh_0 rfl (by decide) (c1 := 65) rfl dX11_wrong_90 lk_RX11_f66 ?_
            refine V_getI (f := 2) ci_X2 sh_65 rfl (by decide) dX11_wrong_93 lk_RX11_f248 ?_
            obtain ⟨g19, h⟩ := h
            refine V_iald sh_66 (by decide) g19 dX11_wrong_96 ?_
            exact V_iret rfl (fun _ q => by cases q) (vp_nar_int _) dX11_wrong_97 h
          · have h := h.2 q18
            refine V_aload_n 0 rfl rfl dX11_wrong_72 ?_
            refine V_getR (f := 8) ci_X11 sh_0 rfl (by decide) (c1 := 65) rfl dX11_wrong_73 lk_RX11_f66 ?_
            refine V_getI (f := 2) ci_X2 sh_65 rfl (by decide) dX11_wrong_76 lk_RX11_f248 ?_
            refine V_goto (tgt := 97) dX11_wrong_79 (by decide) ?_
            exact V_iret rfl (fun _ q => by cases q) (vp_nar_int _) dX11_wrong_97 h
        · have h := h.2 q16
          refine V_iconst dX11_wrong_66 ?_
          exact V_iret rfl (fun _ q => by cases q) (vp_nar_int _) dX11_wrong_67 h
      · have h := h.2 q15
        refine V_aload_n 0 rfl rfl dX11_wrong_48 ?_
        refine V_getR (f := 8) ci_X11 sh_0 rfl (by decide) (c1 := 65) rfl dX11_wrong_49 lk_RX11_f66 ?_
        refine V_getI (f := 1) ci_X2 sh_65 rfl (by decide) dX11_wrong_52 lk_RX11_f245 ?_
        exact V_iret rfl (fun _ q => by cases q) (vp_nar_int _) dX11_wrong_55 h
    · have h := h.2 q10
      refine V_bipush (v := -4) (by decide) dX11_wrong_22 ?_
      exact V_iret rfl (fun _ q => by cases q) (vp_nar_int _) dX11_wrong_24 h
  · have h := h.2 q5
    refine V_bipush (v := -3) (by decide) dX11_wrong_8 ?_
    exact V_iret rfl (fun _ q => by cases q) (vp_nar_int _) dX11_wrong_10 h
theorem eX11_wrong {X : Cx} {v1 : Int} {σ : Sg} {Q : Int → Sg → Prop} (h : GX11_wrong_0 X v1 σ Q) : KX11_wrong X v1 σ Q := V_enter (by decide) (Nat.le_of_ble_eq_true rfl) rfl h
def GX11_name_0 (X : Cx) (v1 : Int) (σ : Sg) (Q : Int → Sg → Prop) : Prop := VV X mX11_name 0 [(0, .ref (cxA X 0)), (1, .int (gI v1))] [] σ Q
set_option maxHeartbeats 2000000 in
set_option maxRecDepth 20000 in
theorem rX11_name_0 {X : Cx} {v1 : Int} {σ : Sg} {Q : Int → Sg → Prop} (h : Rng σ → KX5_has X v1 σ (fun r1 σ2 => Rng σ2 → (inI r1) ∧ ((¬ r1 = 0 → ((12 ≤ (σ2 67 1) → Q ((-5)) σ2) ∧ ((σ2 67 1) < 12 → KX6_add X v1 σ2 (fun r7 σ8 => Rng σ8 → Q r7 σ8)))) ∧ (r1 = 0 → Q ((-2)) σ2)))) : GX11_name_0 X v1 σ Q := by
  unfold GX11_name_0
  refine V_rng (fun hR0 => ?_)
  have h := h hR0
  refine V_aload_n 0 rfl rfl dX11_name_0 ?_
  refine V_getR (f := 0) ci_X11 sh_0 rfl (by decide) (c1 := 1) rfl dX11_name_1 lk_RX11_f10 ?_
  refine V_iload_n 1 rfl rfl dX11_name_4 ?_
  refine V_cV (M' := mX5_has) (As := [.int (gI v1)]) (fun r => [.int (gI r)]) ok_X5_has ok2_X5_has sh_1 rfl (by decide) rfl rfl (Nat.le_of_ble_eq_true rfl) dX11_name_5 lk_RX11_m106 (by decide) (fun _ => rfl) h (fun r1 σ2 h => ?_)
  refine V_rng (fun hR3 => ?_)
  have h := h hR3
  obtain ⟨g4, h⟩ := h
  refine V_if_ne (tgt := 14) dX11_name_8 (by decide) g4 (fun q5 => ?_) (fun q5 => ?_)
  · have h := h.1 q5
    refine V_aload_n 0 rfl rfl dX11_name_14 ?_
    refine V_getR (f := 9) ci_X11 sh_0 rfl (by decide) (c1 := 67) rfl dX11_name_15 lk_RX11_f73 ?_
    refine V_getI (f := 1) ci_X6 sh_67 rfl (by decide) dX11_name_18 lk_RX11_f254 ?_
    refine V_bipush (v := 12) (by decide) dX11_name_21 ?_
    refine V_icmp_ge (tgt := 37) dX11_name_23 (by decide) (show inI (σ2 67 1) from (inI_sh hR3 sh_67 (by decide))) (by decide) (fun q6 => ?_) (fun q6 => ?_)
    · have h := h.1 q6
      refine V_bipush (v := -5) (by decide) dX11_name_37 ?_
      exact V_iret rfl (fun _ q => by cases q) (vp_nar_int _) dX11_name_39 h
    · have h := h.2 q6
      refine V_aload_n 0 rfl rfl dX11_name_26 ?_
      refine V_getR (f := 9) ci_X11 sh_0 rfl (by decide) (c1 := 67) rfl dX11_name_27 lk_RX11_f73 ?_
      refine V_iload_n 1 rfl rfl dX11_name_30 ?_
      refine V_cV (M' := mX6_add) (As := [.int (gI v1)]) (fun r => [.int (gI r)]) ok_X6_add ok2_X6_add sh_67 rfl (by decide) rfl rfl (Nat.le_of_ble_eq_true rfl) dX11_name_31 lk_RX11_m255 (by decide) (fun _ => rfl) h (fun r7 σ8 h => ?_)
      refine V_rng (fun hR9 => ?_)
      have h := h hR9
      refine V_goto (tgt := 39) dX11_name_34 (by decide) ?_
      exact V_iret rfl (fun _ q => by cases q) (vp_nar_int _) dX11_name_39 h
  · have h := h.2 q5
    refine V_bipush (v := -2) (by decide) dX11_name_11 ?_
    exact V_iret rfl (fun _ q => by cases q) (vp_nar_int _) dX11_name_13 h
theorem eX11_name {X : Cx} {v1 : Int} {σ : Sg} {Q : Int → Sg → Prop} (h : GX11_name_0 X v1 σ Q) : KX11_name X v1 σ Q := V_enter (by decide) (Nat.le_of_ble_eq_true rfl) rfl h
def GX11_hush_0 (X : Cx) (σ : Sg) (Q : Int → Sg → Prop) : Prop := VV X mX11_hush 0 [(0, .ref (cxA X 0))] [] σ Q
set_option maxHeartbeats 2000000 in
set_option maxRecDepth 20000 in
theorem rX11_hush_0 {X : Cx} {σ : Sg} {Q : Int → Sg → Prop} (h : Rng σ → Q (σ 67 1) (up2 σ 67 1 0)) : GX11_hush_0 X σ Q := by
  unfold GX11_hush_0
  refine V_rng (fun hR0 => ?_)
  have h := h hR0
  refine V_aload_n 0 rfl rfl dX11_hush_0 ?_
  refine V_getR (f := 9) ci_X11 sh_0 rfl (by decide) (c1 := 67) rfl dX11_hush_1 lk_RX11_f73 ?_
  refine V_getI (f := 1) ci_X6 sh_67 rfl (by decide) dX11_hush_4 lk_RX11_f254 ?_
  refine V_istore_n (L' := [(1, .int (gI (σ 67 1))), (0, .ref (cxA X 0))]) rfl (by decide) rfl dX11_hush_7 ?_
  refine V_aload_n 1 rfl rfl dX11_hush_8 ?_
  refine V_getR (f := 9) ci_X11 sh_0 rfl (by decide) (c1 := 67) rfl dX11_hush_9 lk_RX11_f73 ?_
  refine V_iconst dX11_hush_12 ?_
  refine V_putI (f := 1) ci_X6 sh_67 rfl (by decide) rfl rfl (by decide) dX11_hush_13 lk_RX11_f254 ?_
  refine V_iload_n 0 rfl rfl dX11_hush_16 ?_
  exact V_iret rfl (fun _ q => by cases q) (vp_nar_int _) dX11_hush_17 h
theorem eX11_hush {X : Cx} {σ : Sg} {Q : Int → Sg → Prop} (h : GX11_hush_0 X σ Q) : KX11_hush X σ Q := V_enter (by decide) (Nat.le_of_ble_eq_true rfl) rfl h
def GX11_talk_0 (X : Cx) (v1 : Int) (σ : Sg) (Q : Int → Sg → Prop) : Prop := VV X mX11_talk 0 [(0, .ref (cxA X 0)), (1, .int (gI v1))] [] σ Q
set_option maxHeartbeats 2000000 in
set_option maxRecDepth 20000 in
theorem rX11_talk_0 {X : Cx} {v1 : Int} {σ : Sg} {Q : Int → Sg → Prop} (h : Rng σ → KX10_areWords X v1 σ (fun r1 σ2 => Rng σ2 → (inI r1) ∧ ((r1 = 0 → Q ((-3)) σ2) ∧ (¬ r1 = 0 → KX11_waysWith X v1 σ2 (fun r6 σ7 => Rng σ7 → r6 = 42 ∧ KX6_cost X σ7 (fun r9 σ10 => Rng σ10 → Q r9 σ10)))))) : GX11_talk_0 X v1 σ Q := by
  unfold GX11_talk_0
  refine V_rng (fun hR0 => ?_)
  have h := h hR0
  refine V_iload_n 1 rfl rfl dX11_talk_0 ?_
  refine V_cS (M' := mX10_areWords) (As := [.int (gI v1)]) (fun r => [.int (gI r)]) ok_X10_areWords ok2_X10_areWords rfl rfl (Nat.le_of_ble_eq_true rfl) dX11_talk_1 lk_RX11_m163 (by decide) (fun _ => rfl) h (fun r1 σ2 h => ?_)
  refine V_rng (fun hR3 => ?_)
  have h := h hR3
  obtain ⟨g4, h⟩ := h
  refine V_if_eq (tgt := 22) dX11_talk_4 (by decide) g4 (fun q5 => ?_) (fun q5 => ?_)
  · have h := h.1 q5
    refine V_bipush (v := -3) (by decide) dX11_talk_22 ?_
    exact V_iret rfl (fun _ q => by cases q) (vp_nar_int _) dX11_talk_24 h
  · have h := h.2 q5
    refine V_aload_n 0 rfl rfl dX11_talk_7 ?_
    refine V_getR (f := 9) ci_X11 sh_0 rfl (by decide) (c1 := 67) rfl dX11_talk_8 lk_RX11_f73 ?_
    refine V_aload_n 0 rfl rfl dX11_talk_11 ?_
    refine V_iload_n 1 rfl rfl dX11_talk_12 ?_
    refine V_cV (M' := mX11_waysWith) (As := [.int (gI v1)]) (fun r => [.ref (cxA X r.toNat), .ref (cxA X 67)]) ok_X11_waysWith ok2_X11_waysWith sh_0 rfl (by decide) rfl rfl (Nat.le_of_ble_eq_true rfl) dX11_talk_13 lk_RX11_m166 (by decide) (fun _ => rfl) h (fun r6 σ7 h => ?_)
    refine V_rng (fun hR8 => ?_)
    have h := h hR8
    obtain ⟨hw, hk⟩ := h
    subst hw
    have h := hk
    refine V_cV (M' := mX6_cost) (As := [.ref (cxA X 42)]) (fun r => [.int (gI r)]) ok_X6_cost ok2_X6_cost sh_67 rfl (by decide) rfl rfl (Nat.le_of_ble_eq_true rfl) dX11_talk_16 lk_RX11_m257 (by decide) (fun _ => rfl) h (fun r9 σ10 h => ?_)
    refine V_rng (fun hR11 => ?_)
    have h := h hR11
    refine V_goto (tgt := 24) dX11_talk_19 (by decide) ?_
    exact V_iret rfl (fun _ q => by cases q) (vp_nar_int _) dX11_talk_24 h
theorem eX11_talk {X : Cx} {v1 : Int} {σ : Sg} {Q : Int → Sg → Prop} (h : GX11_talk_0 X v1 σ Q) : KX11_talk X v1 σ Q := V_enter (by decide) (Nat.le_of_ble_eq_true rfl) rfl h
def GX11_worth_0 (X : Cx) (v1 : Int) (v2 : Int) (σ : Sg) (Q : Int → Sg → Prop) : Prop := VV X mX11_worth 0 [(0, .ref (cxA X 0)), (1, .int (gI v1)), (2, .int (gI v2))] [] σ Q
def GX11_worth_63 (X : Cx) (v1 : Int) (v2 : Int) (σ : Sg) (Q : Int → Sg → Prop) : Prop := VV X mX11_worth 63 [(0, .ref (cxA X 0)), (1, .int (gI v1)), (2, .int (gI v2))] [] σ Q
def GX11_worth_90 (X : Cx) (v1 : Int) (v2 : Int) (σ : Sg) (Q : Int → Sg → Prop) : Prop := VV X mX11_worth 90 [(0, .ref (cxA X 0)), (1, .int (gI v1)), (2, .int (gI v2))] [] σ Q
set_option maxHeartbeats 2000000 in
set_option maxRecDepth 20000 in
theorem rX11_worth_0 {X : Cx} {v1 : Int} {v2 : Int} {σ : Sg} {Q : Int → Sg → Prop} (h : Rng σ → KX10_areWords X v1 σ (fun r1 σ2 => Rng σ2 → (inI r1) ∧ ((r1 = 0 → Q ((-3)) σ2) ∧ (¬ r1 = 0 → KX11_isWithin X v2 3 σ2 (fun r6 σ7 => Rng σ7 → (inI r6) ∧ ((¬ r6 = 0 → (inI v2) ∧ ((¬ v2 = 0 → ((¬ (σ7 49 2) = (σ7 0 11) → GX11_worth_63 X v1 v2 σ7 Q) ∧ ((σ7 49 2) = (σ7 0 11) → (inI v1) ∧ (((σ7 49 1) = v1 → GX11_worth_90 X v1 v2 σ7 Q) ∧ (¬ (σ7 49 1) = v1 → GX11_worth_63 X v1 v2 σ7 Q))))) ∧ (v2 = 0 → KX11_waysWith X v1 σ7 (fun r16 σ17 => Rng σ17 → r16 = 42 ∧ KX9_worthOf X 42 (σ17 1 1) σ17 (fun r19 σ20 => Rng σ20 → Q r19 σ20))))) ∧ (r6 = 0 → Q ((-3)) σ7))))))) : GX11_worth_0 X v1 v2 σ Q := by
  unfold GX11_worth_0
  refine V_rng (fun hR0 => ?_)
  have h := h hR0
  refine V_iload_n 1 rfl rfl dX11_worth_0 ?_
  refine V_cS (M' := mX10_areWords) (As := [.int (gI v1)]) (fun r => [.int (gI r)]) ok_X10_areWords ok2_X10_areWords rfl rfl (Nat.le_of_ble_eq_true rfl) dX11_worth_1 lk_RX11_m163 (by decide) (fun _ => rfl) h (fun r1 σ2 h => ?_)
  refine V_rng (fun hR3 => ?_)
  have h := h hR3
  obtain ⟨g4, h⟩ := h
  refine V_if_eq (tgt := 15) dX11_worth_4 (by decide) g4 (fun q5 => ?_) (fun q5 => ?_)
  · have h := h.1 q5
    refine V_bipush (v := -3) (by decide) dX11_worth_15 ?_
    exact V_iret rfl (fun _ q => by cases q) (vp_nar_int _) dX11_worth_17 h
  · have h := h.2 q5
    refine V_iload_n 2 rfl rfl dX11_worth_7 ?_
    refine V_iconst dX11_worth_8 ?_
    refine V_cS (M' := mX11_isWithin) (As := [.int (gI v2), .int (gI 3)]) (fun r => [.int (gI r)]) ok_X11_isWithin ok2_X11_isWithin rfl rfl (Nat.le_of_ble_eq_true rfl) dX11_worth_9 lk_RX11_m88 (by decide) (fun _ => rfl) h (fun r6 σ7 h => ?_)
    refine V_rng (fun hR8 => ?_)
    have h := h hR8
    obtain ⟨g9, h⟩ := h
    refine V_if_ne (tgt := 18) dX11_worth_12 (by decide) g9 (fun q10 => ?_) (fun q10 => ?_)
    · have h := h.1 q10
      refine V_iload_n 2 rfl rfl dX11_worth_18 ?_
      obtain ⟨g11, h⟩ := h
      refine V_if_ne (tgt := 38) dX11_worth_19 (by decide) g11 (fun q12 => ?_) (fun q12 => ?_)
      · have h := h.1 q12
        refine V_aload_n 0 rfl rfl dX11_worth_38 ?_
        refine V_getR (f := 5) ci_X11 sh_0 rfl (by decide) (c1 := 49) rfl dX11_worth_39 lk_RX11_f45 ?_
        refine V_getI (f := 2) ci_X0 sh_49 rfl (by decide) dX11_worth_42 lk_RX11_f263 ?_
        refine V_aload_n 0 rfl rfl dX11_worth_45 ?_
        refine V_getI (f := 11) ci_X11 sh_0 rfl (by decide) dX11_worth_46 lk_RX11_f99 ?_
        refine V_icmp_ne (tgt := 63) dX11_worth_49 (by decide) (show inI (σ7 49 2) from (inI_sh hR8 sh_49 (by decide))) (show inI (σ7 0 11) from (inI_sh hR8 sh_0 (by decide))) (fun q13 => ?_) (fun q13 => ?_)
        · have h := h.1 q13
          exact h
        · have h := h.2 q13
          refine V_aload_n 0 rfl rfl dX11_worth_52 ?_
          refine V_getR (f := 5) ci_X11 sh_0 rfl (by decide) (c1 := 49) rfl dX11_worth_53 lk_RX11_f45 ?_
          refine V_getI (f := 1) ci_X0 sh_49 rfl (by decide) dX11_worth_56 lk_RX11_f264 ?_
          refine V_iload_n 1 rfl rfl dX11_worth_59 ?_
          obtain ⟨g14, h⟩ := h
          refine V_icmp_eq (tgt := 90) dX11_worth_60 (by decide) (show inI (σ7 49 1) from (inI_sh hR8 sh_49 (by decide))) g14 (fun q15 => ?_) (fun q15 => ?_)
          · have h := h.1 q15
            exact h
          · have h := h.2 q15
            exact h
      · have h := h.2 q12
        refine V_aload_n 0 rfl rfl dX11_worth_22 ?_
        refine V_iload_n 1 rfl rfl dX11_worth_23 ?_
        refine V_cV (M' := mX11_waysWith) (As := [.int (gI v1)]) (fun r => [.ref (cxA X r.toNat)]) ok_X11_waysWith ok2_X11_waysWith sh_0 rfl (by decide) rfl rfl (Nat.le_of_ble_eq_true rfl) dX11_worth_24 lk_RX11_m166 (by decide) (fun _ => rfl) h (fun r16 σ17 h => ?_)
        refine V_rng (fun hR18 => ?_)
        have h := h hR18
        obtain ⟨hw, hk⟩ := h
        subst hw
        have h := hk
        refine V_aload_n 0 rfl rfl dX11_worth_27 ?_
        refine V_getR (f := 0) ci_X11 sh_0 rfl (by decide) (c1 := 1) rfl dX11_worth_28 lk_RX11_f10 ?_
        refine V_getI (f := 1) ci_X5 sh_1 rfl (by decide) dX11_worth_31 lk_RX11_f95 ?_
        refine V_cV (M' := mX9_worthOf) (As := [.int (gI (σ17 1 1))]) (fun r => [.int (gI r)]) ok_X9_worthOf ok2_X9_worthOf sh_42 rfl (by decide) rfl rfl (Nat.le_of_ble_eq_true rfl) dX11_worth_34 lk_RX11_m260 (by decide) (fun _ => rfl) h (fun r19 σ20 h => ?_)
        refine V_rng (fun hR21 => ?_)
        have h := h hR21
        exact V_iret rfl (fun _ q => by cases q) (vp_nar_int _) dX11_worth_37 h
    · have h := h.2 q10
      refine V_bipush (v := -3) (by decide) dX11_worth_15 ?_
      exact V_iret rfl (fun _ q => by cases q) (vp_nar_int _) dX11_worth_17 h
set_option maxHeartbeats 2000000 in
set_option maxRecDepth 20000 in
theorem rX11_worth_63 {X : Cx} {v1 : Int} {v2 : Int} {σ : Sg} {Q : Int → Sg → Prop} (h : Rng σ → KX0_find X v1 σ (fun r1 σ2 => Rng σ2 → GX11_worth_90 X v1 v2 (up2 σ2 49 2 (σ2 0 11)) Q)) : GX11_worth_63 X v1 v2 σ Q := by
  unfold GX11_worth_63
  refine V_rng (fun hR0 => ?_)
  have h := h hR0
  refine V_aload_n 0 rfl rfl dX11_worth_63 ?_
  refine V_getR (f := 5) ci_X11 sh_0 rfl (by decide) (c1 := 49) rfl dX11_worth_64 lk_RX11_f45 ?_
  refine V_aload_n 0 rfl rfl dX11_worth_67 ?_
  refine V_getR (f := 0) ci_X11 sh_0 rfl (by decide) (c1 := 1) rfl dX11_worth_68 lk_RX11_f10 ?_
  refine V_aload_n 0 rfl rfl dX11_worth_71 ?_
  refine V_getR (f := 1) ci_X11 sh_0 rfl (by decide) (c1 := 11) rfl dX11_worth_72 lk_RX11_f18 ?_
  refine V_iload_n 1 rfl rfl dX11_worth_75 ?_
  refine V_cV (M' := mX0_find) (As := [.ref (cxA X 1), .ref (cxA X 11), .int (gI v1)]) (fun _ => []) ok_X0_find ok2_X0_find sh_49 rfl (by decide) rfl rfl (Nat.le_of_ble_eq_true rfl) dX11_worth_76 lk_RX11_m265 (by decide) (fun _ => rfl) h (fun r1 σ2 h => ?_)
  refine V_rng (fun hR3 => ?_)
  have h := h hR3
  refine V_aload_n 0 rfl rfl dX11_worth_79 ?_
  refine V_getR (f := 5) ci_X11 sh_0 rfl (by decide) (c1 := 49) rfl dX11_worth_80 lk_RX11_f45 ?_
  refine V_aload_n 0 rfl rfl dX11_worth_83 ?_
  refine V_getI (f := 11) ci_X11 sh_0 rfl (by decide) dX11_worth_84 lk_RX11_f99 ?_
  refine V_putI (f := 2) ci_X0 sh_49 rfl (by decide) rfl rfl (show inI (σ2 0 11) from (inI_sh hR3 sh_0 (by decide))) dX11_worth_87 lk_RX11_f263 ?_
  exact h
set_option maxHeartbeats 2000000 in
set_option maxRecDepth 20000 in
theorem rX11_worth_90 {X : Cx} {v1 : Int} {v2 : Int} {σ : Sg} {Q : Int → Sg → Prop} (h : Rng σ → (inI v2) ∧ ((¬ v2 = 1 → Q (σ 49 4) σ) ∧ (v2 = 1 → Q (σ 49 3) σ))) : GX11_worth_90 X v1 v2 σ Q := by
  unfold GX11_worth_90
  refine V_rng (fun hR0 => ?_)
  have h := h hR0
  refine V_iload_n 2 rfl rfl dX11_worth_90 ?_
  refine V_iconst dX11_worth_91 ?_
  obtain ⟨g1, h⟩ := h
  refine V_icmp_ne (tgt := 105) dX11_worth_92 (by decide) g1 (by decide) (fun q2 => ?_) (fun q2 => ?_)
  · have h := h.1 q2
    refine V_aload_n 0 rfl rfl dX11_worth_105 ?_
    refine V_getR (f := 5) ci_X11 sh_0 rfl (by decide) (c1 := 49) rfl dX11_worth_106 lk_RX11_f45 ?_
    refine V_getI (f := 4) ci_X0 sh_49 rfl (by decide) dX11_worth_109 lk_RX11_f271 ?_
    exact V_iret rfl (fun _ q => by cases q) (vp_nar_int _) dX11_worth_112 h
  · have h := h.2 q2
    refine V_aload_n 0 rfl rfl dX11_worth_95 ?_
    refine V_getR (f := 5) ci_X11 sh_0 rfl (by decide) (c1 := 49) rfl dX11_worth_96 lk_RX11_f45 ?_
    refine V_getI (f := 3) ci_X0 sh_49 rfl (by decide) dX11_worth_99 lk_RX11_f268 ?_
    refine V_goto (tgt := 112) dX11_worth_102 (by decide) ?_
    exact V_iret rfl (fun _ q => by cases q) (vp_nar_int _) dX11_worth_112 h
theorem eX11_worth {X : Cx} {v1 : Int} {v2 : Int} {σ : Sg} {Q : Int → Sg → Prop} (h : GX11_worth_0 X v1 v2 σ Q) : KX11_worth X v1 v2 σ Q := V_enter (by decide) (Nat.le_of_ble_eq_true rfl) rfl h
def GX11_count_0 (X : Cx) (v1 : Int) (σ : Sg) (Q : Int → Sg → Prop) : Prop := VV X mX11_count 0 [(0, .ref (cxA X 0)), (1, .int (gI v1))] [] σ Q
set_option maxHeartbeats 2000000 in
set_option maxRecDepth 20000 in
theorem rX11_count_0 {X : Cx} {v1 : Int} {σ : Sg} {Q : Int → Sg → Prop} (h : Rng σ → (inI v1) ∧ ((v1 = 0 → Q (σ 1 1) σ) ∧ (v1 = 1 → Q (σ 1 2) σ) ∧ (v1 = 2 → Q (σ 12 2) σ) ∧ (v1 = 3 → Q (σ 0 10) σ) ∧ (v1 = 4 → Q (σ 67 1) σ) ∧ (¬ v1 = 0 ∧ ¬ v1 = 1 ∧ ¬ v1 = 2 ∧ ¬ v1 = 3 ∧ ¬ v1 = 4 → Q ((-3)) σ))) : GX11_count_0 X v1 σ Q := by
  unfold GX11_count_0
  refine V_rng (fun hR0 => ?_)
  have h := h hR0
  refine V_iload_n 1 rfl rfl dX11_count_0 ?_
  obtain ⟨g1, h⟩ := h
  rcases (show v1 = 0 ∨ v1 = 1 ∨ v1 = 2 ∨ v1 = 3 ∨ v1 = 4 ∨ (¬ v1 = 0 ∧ ¬ v1 = 1 ∧ ¬ v1 = 2 ∧ ¬ v1 = 3 ∧ ¬ v1 = 4) by omega) with q2 | q2 | q2 | q2 | q2 | q2
  · have h := h.1 q2
    refine V_tsw (tgt := 36) (off := 35) dX11_count_1 g1 (by omega) (by omega) (by rw [q2]; rfl) (by decide) ?_
    refine V_aload_n 0 rfl rfl dX11_count_36 ?_
    refine V_getR (f := 0) ci_X11 sh_0 rfl (by decide) (c1 := 1) rfl dX11_count_37 lk_RX11_f10 ?_
    refine V_getI (f := 1) ci_X5 sh_1 rfl (by decide) dX11_count_40 lk_RX11_f95 ?_
    exact V_iret rfl (fun _ q => by cases q) (vp_nar_int _) dX11_count_43 h
  · have h := h.2.1 q2
    refine V_tsw (tgt := 44) (off := 43) dX11_count_1 g1 (by omega) (by omega) (by rw [q2]; rfl) (by decide) ?_
    refine V_aload_n 0 rfl rfl dX11_count_44 ?_
    refine V_getR (f := 0) ci_X11 sh_0 rfl (by decide) (c1 := 1) rfl dX11_count_45 lk_RX11_f10 ?_
    refine V_getI (f := 2) ci_X5 sh_1 rfl (by decide) dX11_count_48 lk_RX11_f274 ?_
    exact V_iret rfl (fun _ q => by cases q) (vp_nar_int _) dX11_count_51 h
  · have h := h.2.2.1 q2
    refine V_tsw (tgt := 52) (off := 51) dX11_count_1 g1 (by omega) (by omega) (by rw [q2]; rfl) (by decide) ?_
    refine V_aload_n 0 rfl rfl dX11_count_52 ?_
    refine V_getR (f := 2) ci_X11 sh_0 rfl (by decide) (c1 := 12) rfl dX11_count_53 lk_RX11_f25 ?_
    refine V_getI (f := 2) ci_X7 sh_12 rfl (by decide) dX11_count_56 lk_RX11_f277 ?_
    exact V_iret rfl (fun _ q => by cases q) (vp_nar_int _) dX11_count_59 h
  · have h := h.2.2.2.1 q2
    refine V_tsw (tgt := 60) (off := 59) dX11_count_1 g1 (by omega) (by omega) (by rw [q2]; rfl) (by decide) ?_
    refine V_aload_n 0 rfl rfl dX11_count_60 ?_
    refine V_getI (f := 10) ci_X11 sh_0 rfl (by decide) dX11_count_61 lk_RX11_f142 ?_
    exact V_iret rfl (fun _ q => by cases q) (vp_nar_int _) dX11_count_64 h
  · have h := h.2.2.2.2.1 q2
    refine V_tsw (tgt := 65) (off := 64) dX11_count_1 g1 (by omega) (by omega) (by rw [q2]; rfl) (by decide) ?_
    refine V_aload_n 0 rfl rfl dX11_count_65 ?_
    refine V_getR (f := 9) ci_X11 sh_0 rfl (by decide) (c1 := 67) rfl dX11_count_66 lk_RX11_f73 ?_
    refine V_getI (f := 1) ci_X6 sh_67 rfl (by decide) dX11_count_69 lk_RX11_f254 ?_
    exact V_iret rfl (fun _ q => by cases q) (vp_nar_int _) dX11_count_72 h
  · have h := h.2.2.2.2.2 q2
    refine V_tswD (tgt := 73) dX11_count_1 g1 (by omega) (by decide) ?_
    refine V_bipush (v := -3) (by decide) dX11_count_73 ?_
    exact V_iret rfl (fun _ q => by cases q) (vp_nar_int _) dX11_count_75 h
theorem eX11_count {X : Cx} {v1 : Int} {σ : Sg} {Q : Int → Sg → Prop} (h : GX11_count_0 X v1 σ Q) : KX11_count X v1 σ Q := V_enter (by decide) (Nat.le_of_ble_eq_true rfl) rfl h
