/-! printed by program: X12_kept X12_offer X12_isAhead X12_settle X12_cheapestLeft X12_search X12_areWords X12_cheapest X12_sets X12_quick X12_howMany X12_tiesTo X12_areAlike X12_findTwins X12_twin X12_breaks X12_findSaid X12_think X12_hears X12_tells X12_ends X12_tryWord X12_wrong X12_name X12_hush X12_talk X12_worthOf X12_worth X12_count -/
def GX12_kept_0 (X : Cx) (v1 : Int) (v2 : Int) (σ : Sg) (Q : Int → Sg → Prop) : Prop := VV X mX12_kept 0 [(0, .ref (cxA X 69)), (1, .int (gI v1)), (2, .int (gI v2))] [] σ Q
set_option maxHeartbeats 2000000 in
set_option maxRecDepth 20000 in
theorem rX12_kept_0 {X : Cx} {v1 : Int} {v2 : Int} {σ : Sg} {Q : Int → Sg → Prop} (h : Rng σ → KX12_in X v1 0 ((σ 69 20) - 1) σ (fun r1 σ2 => Rng σ2 → (inI r1) ∧ ((¬ r1 = 0 → KX12_in X v2 0 2 σ2 (fun r6 σ7 => Rng σ7 → (inI r6) ∧ ((¬ r6 = 0 → KX12_recall X v1 σ7 (fun r11 σ12 => Rng σ12 → (inI v2) ∧ ((¬ v2 = 0 → (inI v2) ∧ ((¬ v2 = 1 → Q (σ12 69 16) σ12) ∧ (v2 = 1 → KX12_costTold X σ12 (fun r18 σ19 => Rng σ19 → Q r18 σ19)))) ∧ (v2 = 0 → KX12_meaning X σ12 (fun r21 σ22 => Rng σ22 → Q r21 σ22))))) ∧ (r6 = 0 → Q ((-3)) σ7)))) ∧ (r1 = 0 → Q ((-2)) σ2)))) : GX12_kept_0 X v1 v2 σ Q := by
  unfold GX12_kept_0
  refine V_rng (fun hR0 => ?_)
  have h := h hR0
  refine V_iload_n 1 rfl rfl dX12_kept_0 ?_
  refine V_iconst dX12_kept_1 ?_
  refine V_aload_n 0 rfl rfl dX12_kept_2 ?_
  refine V_getI (f := 20) ci_X12 sh_69 rfl (by decide) dX12_kept_3 lk_RX12_f228 ?_
  refine V_iconst dX12_kept_6 ?_
  refine V_isub dX12_kept_7 ?_
  refine V_cS (M' := mX12_in) (As := [.int (gI v1), .int (gI 0), .int (gI ((σ 69 20) - 1))]) (fun r => [.int (gI r)]) ok_X12_in ok2_X12_in rfl rfl (Nat.le_of_ble_eq_true rfl) dX12_kept_8 lk_RX12_m102 (by decide) (fun _ => rfl) h (fun r1 σ2 h => ?_)
  refine V_rng (fun hR3 => ?_)
  have h := h hR3
  obtain ⟨g4, h⟩ := h
  refine V_if_ne (tgt := 17) dX12_kept_11 (by decide) g4 (fun q5 => ?_) (fun q5 => ?_)
  · have h := h.1 q5
    refine V_iload_n 2 rfl rfl dX12_kept_17 ?_
    refine V_iconst dX12_kept_18 ?_
    refine V_iconst dX12_kept_19 ?_
    refine V_cS (M' := mX12_in) (As := [.int (gI v2), .int (gI 0), .int (gI 2)]) (fun r => [.int (gI r)]) ok_X12_in ok2_X12_in rfl rfl (Nat.le_of_ble_eq_true rfl) dX12_kept_20 lk_RX12_m102 (by decide) (fun _ => rfl) h (fun r6 σ7 h => ?_)
    refine V_rng (fun hR8 => ?_)
    have h := h hR8
    obtain ⟨g9, h⟩ := h
    refine V_if_ne (tgt := 29) dX12_kept_23 (by decide) g9 (fun q10 => ?_) (fun q10 => ?_)
    · have h := h.1 q10
      refine V_aload_n 0 rfl rfl dX12_kept_29 ?_
      refine V_iload_n 1 rfl rfl dX12_kept_30 ?_
      refine V_cV (M' := mX12_recall) (As := [.int (gI v1)]) (fun _ => []) ok_X12_recall ok2_X12_recall sh_69 rfl (by decide) rfl rfl (Nat.le_of_ble_eq_true rfl) dX12_kept_31 lk_RX12_m231 (by decide) (fun _ => rfl) h (fun r11 σ12 h => ?_)
      refine V_rng (fun hR13 => ?_)
      have h := h hR13
      refine V_iload_n 2 rfl rfl dX12_kept_34 ?_
      obtain ⟨g14, h⟩ := h
      refine V_if_ne (tgt := 45) dX12_kept_35 (by decide) g14 (fun q15 => ?_) (fun q15 => ?_)
      · have h := h.1 q15
        refine V_iload_n 2 rfl rfl dX12_kept_45 ?_
        refine V_iconst dX12_kept_46 ?_
        obtain ⟨g16, h⟩ := h
        refine V_icmp_ne (tgt := 57) dX12_kept_47 (by decide) g16 (by decide) (fun q17 => ?_) (fun q17 => ?_)
        · have h := h.1 q17
          refine V_aload_n 0 rfl rfl dX12_kept_57 ?_
          refine V_getI (f := 16) ci_X12 sh_69 rfl (by decide) dX12_kept_58 lk_RX12_f185 ?_
          exact V_iret rfl (fun _ q => by cases q) (vp_nar_int _) dX12_kept_61 h
        · have h := h.2 q17
          refine V_aload_n 0 rfl rfl dX12_kept_50 ?_
          refine V_cV (M' := mX12_costTold) (As := []) (fun r => [.int (gI r)]) ok_X12_costTold ok2_X12_costTold sh_69 rfl (by decide) rfl rfl (Nat.le_of_ble_eq_true rfl) dX12_kept_51 lk_RX12_m225 (by decide) (fun _ => rfl) h (fun r18 σ19 h => ?_)
          refine V_rng (fun hR20 => ?_)
          have h := h hR20
          refine V_goto (tgt := 61) dX12_kept_54 (by decide) ?_
          exact V_iret rfl (fun _ q => by cases q) (vp_nar_int _) dX12_kept_61 h
      · have h := h.2 q15
        refine V_aload_n 0 rfl rfl dX12_kept_38 ?_
        refine V_cV (M' := mX12_meaning) (As := []) (fun r => [.int (gI r)]) ok_X12_meaning ok2_X12_meaning sh_69 rfl (by decide) rfl rfl (Nat.le_of_ble_eq_true rfl) dX12_kept_39 lk_RX12_m222 (by decide) (fun _ => rfl) h (fun r21 σ22 h => ?_)
        refine V_rng (fun hR23 => ?_)
        have h := h hR23
        refine V_goto (tgt := 61) dX12_kept_42 (by decide) ?_
        exact V_iret rfl (fun _ q => by cases q) (vp_nar_int _) dX12_kept_61 h
    · have h := h.2 q10
      refine V_bipush (v := -3) (by decide) dX12_kept_26 ?_
      exact V_iret rfl (fun _ q => by cases q) (vp_nar_int _) dX12_kept_28 h
  · have h := h.2 q5
    refine V_bipush (v := -2) (by decide) dX12_kept_14 ?_
    exact V_iret rfl (fun _ q => by cases q) (vp_nar_int _) dX12_kept_16 h
theorem eX12_kept {X : Cx} {v1 : Int} {v2 : Int} {σ : Sg} {Q : Int → Sg → Prop} (h : GX12_kept_0 X v1 v2 σ Q) : KX12_kept X v1 v2 σ Q := V_enter (by decide) (Nat.le_of_ble_eq_true rfl) rfl h
def GX12_offer_0 (X : Cx) (v1 : Int) (v2 : Int) (v3 : Int) (v4 : Int) (v5 : Int) (σ : Sg) (Q : Int → Sg → Prop) : Prop := VV X mX12_offer 0 [(0, .ref (cxA X 69)), (1, .int (gI v1)), (2, .int (gI v2)), (3, .int (gI v3)), (4, .int (gI v4)), (5, .int (gI v5))] [] σ Q
def GX12_offer_27 (X : Cx) (v1 : Int) (v2 : Int) (v3 : Int) (v4 : Int) (v5 : Int) (σ : Sg) (Q : Int → Sg → Prop) : Prop := VV X mX12_offer 27 [(0, .ref (cxA X 69)), (1, .int (gI v1)), (2, .int (gI v2)), (3, .int (gI v3)), (4, .int (gI v4)), (5, .int (gI v5))] [] σ Q
def GX12_offer_31 (X : Cx) (v1 : Int) (v2 : Int) (v3 : Int) (v4 : Int) (v5 : Int) (σ : Sg) (Q : Int → Sg → Prop) : Prop := VV X mX12_offer 31 [(0, .ref (cxA X 69)), (1, .int (gI v1)), (2, .int (gI v2)), (3, .int (gI v3)), (4, .int (gI v4)), (5, .int (gI v5))] [] σ Q
def GX12_offer_32 (X : Cx) (v1 : Int) (v2 : Int) (v3 : Int) (v4 : Int) (v5 : Int) (s0 : Int) (σ : Sg) (Q : Int → Sg → Prop) : Prop := VV X mX12_offer 32 [(0, .ref (cxA X 69)), (1, .int (gI v1)), (2, .int (gI v2)), (3, .int (gI v3)), (4, .int (gI v4)), (5, .int (gI v5))] [.int (gI s0)] σ Q
def GX12_offer_131 (X : Cx) (v1 : Int) (v2 : Int) (v3 : Int) (v4 : Int) (v5 : Int) (v6 : Int) (σ : Sg) (Q : Int → Sg → Prop) : Prop := VV X mX12_offer 131 [(0, .ref (cxA X 69)), (1, .int (gI v1)), (2, .int (gI v2)), (3, .int (gI v3)), (4, .int (gI v4)), (5, .int (gI v5)), (6, .int (gI v6))] [] σ Q
def GX12_offer_135 (X : Cx) (v1 : Int) (v2 : Int) (v3 : Int) (v4 : Int) (v5 : Int) (v6 : Int) (σ : Sg) (Q : Int → Sg → Prop) : Prop := VV X mX12_offer 135 [(0, .ref (cxA X 69)), (1, .int (gI v1)), (2, .int (gI v2)), (3, .int (gI v3)), (4, .int (gI v4)), (5, .int (gI v5)), (6, .int (gI v6))] [] σ Q
def GX12_offer_136 (X : Cx) (v1 : Int) (v2 : Int) (v3 : Int) (v4 : Int) (v5 : Int) (v6 : Int) (s0 : Int) (σ : Sg) (Q : Int → Sg → Prop) : Prop := VV X mX12_offer 136 [(0, .ref (cxA X 69)), (1, .int (gI v1)), (2, .int (gI v2)), (3, .int (gI v3)), (4, .int (gI v4)), (5, .int (gI v5)), (6, .int (gI v6))] [.int (gI s0)] σ Q
def GX12_offer_138 (X : Cx) (v1 : Int) (v2 : Int) (v3 : Int) (v4 : Int) (v5 : Int) (v6 : Int) (σ : Sg) (Q : Int → Sg → Prop) : Prop := VV X mX12_offer 138 [(0, .ref (cxA X 69)), (1, .int (gI v1)), (2, .int (gI v2)), (3, .int (gI v3)), (4, .int (gI v4)), (5, .int (gI v5)), (6, .int (gI v6))] [] σ Q
set_option maxHeartbeats 2000000 in
set_option maxRecDepth 20000 in
theorem rX12_offer_0 {X : Cx} {v1 : Int} {v2 : Int} {v3 : Int} {v4 : Int} {v5 : Int} {σ : Sg} {Q : Int → Sg → Prop} (h : Rng σ → (inI v2) ∧ ((1000 ≤ v2 → GX12_offer_31 X v1 v2 v3 v4 v5 σ Q) ∧ (v2 < 1000 → (0 ≤ v1 ∧ v1 < 256) ∧ (((σ 84 v1.toNat) = ((-1)) → GX12_offer_27 X v1 v2 v3 v4 v5 σ Q) ∧ (¬ (σ 84 v1.toNat) = ((-1)) → (0 ≤ v1 ∧ v1 < 256) ∧ (inI v2) ∧ (((σ 84 v1.toNat) ≤ v2 → GX12_offer_31 X v1 v2 v3 v4 v5 σ Q) ∧ (v2 < (σ 84 v1.toNat) → GX12_offer_27 X v1 v2 v3 v4 v5 σ Q))))))) : GX12_offer_0 X v1 v2 v3 v4 v5 σ Q := by
  unfold GX12_offer_0
  refine V_rng (fun hR0 => ?_)
  have h := h hR0
  refine V_iload_n 2 rfl rfl dX12_offer_0 ?_
  refine V_sipush (v := 1000) (by decide) dX12_offer_1 ?_
  obtain ⟨g1, h⟩ := h
  refine V_icmp_ge (tgt := 31) dX12_offer_4 (by decide) g1 (by decide) (fun q2 => ?_) (fun q2 => ?_)
  · have h := h.1 q2
    exact h
  · have h := h.2 q2
    refine V_aload_n 0 rfl rfl dX12_offer_7 ?_
    refine V_getR (f := 24) ci_X12 sh_69 rfl (by decide) (c1 := 84) rfl dX12_offer_8 lk_RX12_f52 ?_
    refine V_iload_n 1 rfl rfl dX12_offer_11 ?_
    obtain ⟨g3, h⟩ := h
    refine V_iald sh_84 (by decide) g3 dX12_offer_12 ?_
    refine V_iconst dX12_offer_13 ?_
    refine V_icmp_eq (tgt := 27) dX12_offer_14 (by decide) (show inI (σ 84 v1.toNat) from (inI_sh hR0 sh_84 (by decide))) (by decide) (fun q4 => ?_) (fun q4 => ?_)
    · have h := h.1 q4
      exact h
    · have h := h.2 q4
      refine V_iload_n 2 rfl rfl dX12_offer_17 ?_
      refine V_aload_n 0 rfl rfl dX12_offer_18 ?_
      refine V_getR (f := 24) ci_X12 sh_69 rfl (by decide) (c1 := 84) rfl dX12_offer_19 lk_RX12_f52 ?_
      refine V_iload_n 1 rfl rfl dX12_offer_22 ?_
      obtain ⟨g5, h⟩ := h
      refine V_iald sh_84 (by decide) g5 dX12_offer_23 ?_
      obtain ⟨g6, h⟩ := h
      refine V_icmp_ge (tgt := 31) dX12_offer_24 (by decide) g6 (show inI (σ 84 v1.toNat) from (inI_sh hR0 sh_84 (by decide))) (fun q7 => ?_) (fun q7 => ?_)
      · have h := h.1 q7
        exact h
      · have h := h.2 q7
        exact h
set_option maxHeartbeats 2000000 in
set_option maxRecDepth 20000 in
theorem rX12_offer_27 {X : Cx} {v1 : Int} {v2 : Int} {v3 : Int} {v4 : Int} {v5 : Int} {σ : Sg} {Q : Int → Sg → Prop} (h : Rng σ → GX12_offer_32 X v1 v2 v3 v4 v5 1 σ Q) : GX12_offer_27 X v1 v2 v3 v4 v5 σ Q := by
  unfold GX12_offer_27
  refine V_rng (fun hR0 => ?_)
  have h := h hR0
  refine V_iconst dX12_offer_27 ?_
  refine V_goto (tgt := 32) dX12_offer_28 (by decide) ?_
  exact h
set_option maxHeartbeats 2000000 in
set_option maxRecDepth 20000 in
theorem rX12_offer_31 {X : Cx} {v1 : Int} {v2 : Int} {v3 : Int} {v4 : Int} {v5 : Int} {σ : Sg} {Q : Int → Sg → Prop} (h : Rng σ → GX12_offer_32 X v1 v2 v3 v4 v5 0 σ Q) : GX12_offer_31 X v1 v2 v3 v4 v5 σ Q := by
  unfold GX12_offer_31
  refine V_rng (fun hR0 => ?_)
  have h := h hR0
  refine V_iconst dX12_offer_31 ?_
  exact h
set_option maxHeartbeats 2000000 in
set_option maxRecDepth 20000 in
theorem rX12_offer_32 {X : Cx} {v1 : Int} {v2 : Int} {v3 : Int} {v4 : Int} {v5 : Int} {s0 : Int} {σ : Sg} {Q : Int → Sg → Prop} (h : Rng σ → (inI s0) ∧ ((¬ s0 = 0 → GX12_offer_138 X v1 v2 v3 v4 v5 s0 σ Q) ∧ (s0 = 0 → (0 ≤ v1 ∧ v1 < 256) ∧ (inI v2) ∧ ((¬ v2 = (σ 84 v1.toNat) → GX12_offer_138 X v1 v2 v3 v4 v5 s0 σ Q) ∧ (v2 = (σ 84 v1.toNat) → (0 ≤ v1 ∧ v1 < 256) ∧ ((¬ (σ 90 v1.toNat) = 0 → GX12_offer_138 X v1 v2 v3 v4 v5 s0 σ Q) ∧ ((σ 90 v1.toNat) = 0 → (0 ≤ v1 ∧ v1 < 256) ∧ (inI v3) ∧ ((v3 < (σ 85 v1.toNat) → GX12_offer_131 X v1 v2 v3 v4 v5 s0 σ Q) ∧ ((σ 85 v1.toNat) ≤ v3 → (0 ≤ v1 ∧ v1 < 256) ∧ (inI v3) ∧ ((¬ v3 = (σ 85 v1.toNat) → GX12_offer_135 X v1 v2 v3 v4 v5 s0 σ Q) ∧ (v3 = (σ 85 v1.toNat) → (0 ≤ v4 ∧ v4 < 256) ∧ (0 ≤ v1 ∧ v1 < 256) ∧ (0 ≤ σ 86 v1.toNat ∧ σ 86 v1.toNat < 256) ∧ (((σ 89 v4.toNat) < (σ 89 ((σ 86 v1.toNat).toNat)) → GX12_offer_131 X v1 v2 v3 v4 v5 s0 σ Q) ∧ ((σ 89 ((σ 86 v1.toNat).toNat)) ≤ (σ 89 v4.toNat) → (0 ≤ v1 ∧ v1 < 256) ∧ (inI v4) ∧ ((¬ v4 = (σ 86 v1.toNat) → GX12_offer_135 X v1 v2 v3 v4 v5 s0 σ Q) ∧ (v4 = (σ 86 v1.toNat) → (0 ≤ v5 ∧ v5 < 256) ∧ (0 ≤ v1 ∧ v1 < 256) ∧ (0 ≤ σ 87 v1.toNat ∧ σ 87 v1.toNat < 256) ∧ (((σ 89 ((σ 87 v1.toNat).toNat)) ≤ (σ 89 v5.toNat) → GX12_offer_135 X v1 v2 v3 v4 v5 s0 σ Q) ∧ ((σ 89 v5.toNat) < (σ 89 ((σ 87 v1.toNat).toNat)) → GX12_offer_131 X v1 v2 v3 v4 v5 s0 σ Q))))))))))))))))) : GX12_offer_32 X v1 v2 v3 v4 v5 s0 σ Q := by
  unfold GX12_offer_32
  refine V_rng (fun hR0 => ?_)
  have h := h hR0
  refine V_istore (L' := [(6, .int (gI s0)), (0, .ref (cxA X 69)), (1, .int (gI v1)), (2, .int (gI v2)), (3, .int (gI v3)), (4, .int (gI v4)), (5, .int (gI v5))]) (by decide) rfl dX12_offer_32 ?_
  refine V_iload 0 rfl dX12_offer_34 ?_
  obtain ⟨g1, h⟩ := h
  refine V_if_ne (tgt := 138) dX12_offer_36 (by decide) g1 (fun q2 => ?_) (fun q2 => ?_)
  · have h := h.1 q2
    exact V_sub [1, 2, 3, 4, 5, 6, 0] rfl h
  · have h := h.2 q2
    refine V_iload_n 3 rfl rfl dX12_offer_39 ?_
    refine V_aload_n 1 rfl rfl dX12_offer_40 ?_
    refine V_getR (f := 24) ci_X12 sh_69 rfl (by decide) (c1 := 84) rfl dX12_offer_41 lk_RX12_f52 ?_
    refine V_iload_n 2 rfl rfl dX12_offer_44 ?_
    obtain ⟨g3, h⟩ := h
    refine V_iald sh_84 (by decide) g3 dX12_offer_45 ?_
    obtain ⟨g4, h⟩ := h
    refine V_icmp_ne (tgt := 138) dX12_offer_46 (by decide) g4 (show inI (σ 84 v1.toNat) from (inI_sh hR0 sh_84 (by decide))) (fun q5 => ?_) (fun q5 => ?_)
    · have h := h.1 q5
      exact V_sub [1, 2, 3, 4, 5, 6, 0] rfl h
    · have h := h.2 q5
      refine V_aload_n 1 rfl rfl dX12_offer_49 ?_
      refine V_getR (f := 30) ci_X12 sh_69 rfl (by decide) (c1 := 90) rfl dX12_offer_50 lk_RX12_f70 ?_
      refine V_iload_n 2 rfl rfl dX12_offer_53 ?_
      obtain ⟨g6, h⟩ := h
      refine V_zald sh_90 (by decide) g6 dX12_offer_54 ?_
      refine V_if_ne (tgt := 138) dX12_offer_55 (by decide) (show inI (σ 90 v1.toNat) from (inI_sh hR0 sh_90 (by decide))) (fun q7 => ?_) (fun q7 => ?_)
      · have h := h.1 q7
        exact V_sub [1, 2, 3, 4, 5, 6, 0] rfl h
      · have h := h.2 q7
        refine V_iload_n 4 rfl rfl dX12_offer_58 ?_
        refine V_aload_n 1 rfl rfl dX12_offer_59 ?_
        refine V_getR (f := 25) ci_X12 sh_69 rfl (by decide) (c1 := 85) rfl dX12_offer_60 lk_RX12_f55 ?_
        refine V_iload_n 2 rfl rfl dX12_offer_63 ?_
        obtain ⟨g8, h⟩ := h
        refine V_iald sh_85 (by decide) g8 dX12_offer_64 ?_
        obtain ⟨g9, h⟩ := h
        refine V_icmp_lt (tgt := 131) dX12_offer_65 (by decide) g9 (show inI (σ 85 v1.toNat) from (inI_sh hR0 sh_85 (by decide))) (fun q10 => ?_) (fun q10 => ?_)
        · have h := h.1 q10
          exact V_sub [1, 2, 3, 4, 5, 6, 0] rfl h
        · have h := h.2 q10
          refine V_iload_n 4 rfl rfl dX12_offer_68 ?_
          refine V_aload_n 1 rfl rfl dX12_offer_69 ?_
          refine V_getR (f := 25) ci_X12 sh_69 rfl (by decide) (c1 := 85) rfl dX12_offer_70 lk_RX12_f55 ?_
          refine V_iload_n 2 rfl rfl dX12_offer_73 ?_
          obtain ⟨g11, h⟩ := h
          refine V_iald sh_85 (by decide) g11 dX12_offer_74 ?_
          obtain ⟨g12, h⟩ := h
          refine V_icmp_ne (tgt := 135) dX12_offer_75 (by decide) g12 (show inI (σ 85 v1.toNat) from (inI_sh hR0 sh_85 (by decide))) (fun q13 => ?_) (fun q13 => ?_)
          · have h := h.1 q13
            exact V_sub [1, 2, 3, 4, 5, 6, 0] rfl h
          · have h := h.2 q13
            refine V_aload_n 1 rfl rfl dX12_offer_78 ?_
            refine V_getR (f := 29) ci_X12 sh_69 rfl (by decide) (c1 := 89) rfl dX12_offer_79 lk_RX12_f67 ?_
            refine V_iload 5 rfl dX12_offer_82 ?_
            obtain ⟨g14, h⟩ := h
            refine V_iald sh_89 (by decide) g14 dX12_offer_84 ?_
            refine V_aload_n 1 rfl rfl dX12_offer_85 ?_
            refine V_getR (f := 29) ci_X12 sh_69 rfl (by decide) (c1 := 89) rfl dX12_offer_86 lk_RX12_f67 ?_
            refine V_aload_n 1 rfl rfl dX12_offer_89 ?_
            refine V_getR (f := 26) ci_X12 sh_69 rfl (by decide) (c1 := 86) rfl dX12_offer_90 lk_RX12_f58 ?_
            refine V_iload_n 2 rfl rfl dX12_offer_93 ?_
            obtain ⟨g15, h⟩ := h
            refine V_iald sh_86 (by decide) g15 dX12_offer_94 ?_
            obtain ⟨g16, h⟩ := h
            refine V_iald sh_89 (by decide) g16 dX12_offer_95 ?_
            refine V_icmp_lt (tgt := 131) dX12_offer_96 (by decide) (show inI (σ 89 v4.toNat) from (inI_sh hR0 sh_89 (by decide))) (show inI (σ 89 ((σ 86 v1.toNat).toNat)) from (inI_sh hR0 sh_89 (by decide))) (fun q17 => ?_) (fun q17 => ?_)
            · have h := h.1 q17
              exact V_sub [1, 2, 3, 4, 5, 6, 0] rfl h
            · have h := h.2 q17
              refine V_iload 5 rfl dX12_offer_99 ?_
              refine V_aload_n 1 rfl rfl dX12_offer_101 ?_
              refine V_getR (f := 26) ci_X12 sh_69 rfl (by decide) (c1 := 86) rfl dX12_offer_102 lk_RX12_f58 ?_
              refine V_iload_n 2 rfl rfl dX12_offer_105 ?_
              obtain ⟨g18, h⟩ := h
              refine V_iald sh_86 (by decide) g18 dX12_offer_106 ?_
              obtain ⟨g19, h⟩ := h
              refine V_icmp_ne (tgt := 135) dX12_offer_107 (by decide) g19 (show inI (σ 86 v1.toNat) from (inI_sh hR0 sh_86 (by decide))) (fun q20 => ?_) (fun q20 => ?_)
              · have h := h.1 q20
                exact V_sub [1, 2, 3, 4, 5, 6, 0] rfl h
              · have h := h.2 q20
                refine V_aload_n 1 rfl rfl dX12_offer_110 ?_
                refine V_getR (f := 29) ci_X12 sh_69 rfl (by decide) (c1 := 89) rfl dX12_offer_111 lk_RX12_f67 ?_
                refine V_iload 6 rfl dX12_offer_114 ?_
                obtain ⟨g21, h⟩ := h
                refine V_iald sh_89 (by decide) g21 dX12_offer_116 ?_
                refine V_aload_n 1 rfl rfl dX12_offer_117 ?_
                refine V_getR (f := 29) ci_X12 sh_69 rfl (by decide) (c1 := 89) rfl dX12_offer_118 lk_RX12_f67 ?_
                refine V_aload_n 1 rfl rfl dX12_offer_121 ?_
                refine V_getR (f := 27) ci_X12 sh_69 rfl (by decide) (c1 := 87) rfl dX12_offer_122 lk_RX12_f61 ?_
                refine V_iload_n 2 rfl rfl dX12_offer_125 ?_
                obtain ⟨g22, h⟩ := h
                refine V_iald sh_87 (by decide) g22 dX12_offer_126 ?_
                obtain ⟨g23, h⟩ := h
                refine V_iald sh_89 (by decide) g23 dX12_offer_127 ?_
                refine V_icmp_ge (tgt := 135) dX12_offer_128 (by decide) (show inI (σ 89 v5.toNat) from (inI_sh hR0 sh_89 (by decide))) (show inI (σ 89 ((σ 87 v1.toNat).toNat)) from (inI_sh hR0 sh_89 (by decide))) (fun q24 => ?_) (fun q24 => ?_)
                · have h := h.1 q24
                  exact V_sub [1, 2, 3, 4, 5, 6, 0] rfl h
                · have h := h.2 q24
                  exact V_sub [1, 2, 3, 4, 5, 6, 0] rfl h
set_option maxHeartbeats 2000000 in
set_option maxRecDepth 20000 in
theorem rX12_offer_131 {X : Cx} {v1 : Int} {v2 : Int} {v3 : Int} {v4 : Int} {v5 : Int} {v6 : Int} {σ : Sg} {Q : Int → Sg → Prop} (h : Rng σ → GX12_offer_136 X v1 v2 v3 v4 v5 v6 1 σ Q) : GX12_offer_131 X v1 v2 v3 v4 v5 v6 σ Q := by
  unfold GX12_offer_131
  refine V_rng (fun hR0 => ?_)
  have h := h hR0
  refine V_iconst dX12_offer_131 ?_
  refine V_goto (tgt := 136) dX12_offer_132 (by decide) ?_
  exact h
set_option maxHeartbeats 2000000 in
set_option maxRecDepth 20000 in
theorem rX12_offer_135 {X : Cx} {v1 : Int} {v2 : Int} {v3 : Int} {v4 : Int} {v5 : Int} {v6 : Int} {σ : Sg} {Q : Int → Sg → Prop} (h : Rng σ → GX12_offer_136 X v1 v2 v3 v4 v5 v6 0 σ Q) : GX12_offer_135 X v1 v2 v3 v4 v5 v6 σ Q := by
  unfold GX12_offer_135
  refine V_rng (fun hR0 => ?_)
  have h := h hR0
  refine V_iconst dX12_offer_135 ?_
  exact h
set_option maxHeartbeats 2000000 in
set_option maxRecDepth 20000 in
theorem rX12_offer_136 {X : Cx} {v1 : Int} {v2 : Int} {v3 : Int} {v4 : Int} {v5 : Int} {v6 : Int} {s0 : Int} {σ : Sg} {Q : Int → Sg → Prop} (h : Rng σ → GX12_offer_138 X v1 v2 v3 v4 v5 s0 σ Q) : GX12_offer_136 X v1 v2 v3 v4 v5 v6 s0 σ Q := by
  unfold GX12_offer_136
  refine V_rng (fun hR0 => ?_)
  have h := h hR0
  refine V_istore (L' := [(6, .int (gI s0)), (0, .ref (cxA X 69)), (1, .int (gI v1)), (2, .int (gI v2)), (3, .int (gI v3)), (4, .int (gI v4)), (5, .int (gI v5))]) (by decide) rfl dX12_offer_136 ?_
  exact V_sub [1, 2, 3, 4, 5, 6, 0] rfl h
set_option maxHeartbeats 2000000 in
set_option maxRecDepth 20000 in
theorem rX12_offer_138 {X : Cx} {v1 : Int} {v2 : Int} {v3 : Int} {v4 : Int} {v5 : Int} {v6 : Int} {σ : Sg} {Q : Int → Sg → Prop} (h : Rng σ → (inI v6) ∧ ((v6 = 0 → Q 0 σ) ∧ (¬ v6 = 0 → (0 ≤ v1 ∧ v1 < 256) ∧ (inI v2) ∧ (0 ≤ v1 ∧ v1 < 256) ∧ (inI v3) ∧ (0 ≤ v1 ∧ v1 < 256) ∧ (inI v4) ∧ (0 ≤ v1 ∧ v1 < 256) ∧ (inI v5) ∧ Q 0 (up2 (up2 (up2 (up2 σ 84 v1.toNat v2) 85 v1.toNat v3) 86 v1.toNat v4) 87 v1.toNat v5)))) : GX12_offer_138 X v1 v2 v3 v4 v5 v6 σ Q := by
  unfold GX12_offer_138
  refine V_rng (fun hR0 => ?_)
  have h := h hR0
  refine V_iload 6 rfl dX12_offer_138 ?_
  obtain ⟨g1, h⟩ := h
  refine V_if_eq (tgt := 173) dX12_offer_140 (by decide) g1 (fun q2 => ?_) (fun q2 => ?_)
  · have h := h.1 q2
    exact V_vret rfl dX12_offer_173 h
  · have h := h.2 q2
    refine V_aload_n 0 rfl rfl dX12_offer_143 ?_
    refine V_getR (f := 24) ci_X12 sh_69 rfl (by decide) (c1 := 84) rfl dX12_offer_144 lk_RX12_f52 ?_
    refine V_iload_n 1 rfl rfl dX12_offer_147 ?_
    refine V_iload_n 2 rfl rfl dX12_offer_148 ?_
    obtain ⟨g3, h⟩ := h
    obtain ⟨g4, h⟩ := h
    refine V_iast sh_84 (by decide) g3 g4 dX12_offer_149 ?_
    refine V_aload_n 0 rfl rfl dX12_offer_150 ?_
    refine V_getR (f := 25) ci_X12 sh_69 rfl (by decide) (c1 := 85) rfl dX12_offer_151 lk_RX12_f55 ?_
    refine V_iload_n 1 rfl rfl dX12_offer_154 ?_
    refine V_iload_n 3 rfl rfl dX12_offer_155 ?_
    obtain ⟨g5, h⟩ := h
    obtain ⟨g6, h⟩ := h
    refine V_iast sh_85 (by decide) g5 g6 dX12_offer_156 ?_
    refine V_aload_n 0 rfl rfl dX12_offer_157 ?_
    refine V_getR (f := 26) ci_X12 sh_69 rfl (by decide) (c1 := 86) rfl dX12_offer_158 lk_RX12_f58 ?_
    refine V_iload_n 1 rfl rfl dX12_offer_161 ?_
    refine V_iload 4 rfl dX12_offer_162 ?_
    obtain ⟨g7, h⟩ := h
    obtain ⟨g8, h⟩ := h
    refine V_iast sh_86 (by decide) g7 g8 dX12_offer_164 ?_
    refine V_aload_n 0 rfl rfl dX12_offer_165 ?_
    refine V_getR (f := 27) ci_X12 sh_69 rfl (by decide) (c1 := 87) rfl dX12_offer_166 lk_RX12_f61 ?_
    refine V_iload_n 1 rfl rfl dX12_offer_169 ?_
    refine V_iload 5 rfl dX12_offer_170 ?_
    obtain ⟨g9, h⟩ := h
    obtain ⟨g10, h⟩ := h
    refine V_iast sh_87 (by decide) g9 g10 dX12_offer_172 ?_
    exact V_vret rfl dX12_offer_173 h
theorem eX12_offer {X : Cx} {v1 : Int} {v2 : Int} {v3 : Int} {v4 : Int} {v5 : Int} {σ : Sg} {Q : Int → Sg → Prop} (h : GX12_offer_0 X v1 v2 v3 v4 v5 σ Q) : KX12_offer X v1 v2 v3 v4 v5 σ Q := V_enter (by decide) (Nat.le_of_ble_eq_true rfl) rfl h
def GX12_isAhead_0 (X : Cx) (v1 : Int) (v2 : Int) (σ : Sg) (Q : Int → Sg → Prop) : Prop := VV X mX12_isAhead 0 [(0, .ref (cxA X 69)), (1, .int (gI v1)), (2, .int (gI v2))] [] σ Q
set_option maxHeartbeats 2000000 in
set_option maxRecDepth 20000 in
theorem rX12_isAhead_0 {X : Cx} {v1 : Int} {v2 : Int} {σ : Sg} {Q : Int → Sg → Prop} (h : Rng σ → (0 ≤ v1 ∧ v1 < 256) ∧ (0 ≤ v2 ∧ v2 < 256) ∧ (((σ 85 v1.toNat) < (σ 85 v2.toNat) → Q 1 σ) ∧ ((σ 85 v2.toNat) ≤ (σ 85 v1.toNat) → (0 ≤ v1 ∧ v1 < 256) ∧ (0 ≤ v2 ∧ v2 < 256) ∧ ((¬ (σ 85 v1.toNat) = (σ 85 v2.toNat) → Q 0 σ) ∧ ((σ 85 v1.toNat) = (σ 85 v2.toNat) → (0 ≤ v1 ∧ v1 < 256) ∧ (0 ≤ σ 86 v1.toNat ∧ σ 86 v1.toNat < 256) ∧ (0 ≤ v2 ∧ v2 < 256) ∧ (0 ≤ σ 86 v2.toNat ∧ σ 86 v2.toNat < 256) ∧ (((σ 89 ((σ 86 v1.toNat).toNat)) < (σ 89 ((σ 86 v2.toNat).toNat)) → Q 1 σ) ∧ ((σ 89 ((σ 86 v2.toNat).toNat)) ≤ (σ 89 ((σ 86 v1.toNat).toNat)) → (0 ≤ v1 ∧ v1 < 256) ∧ (0 ≤ v2 ∧ v2 < 256) ∧ ((¬ (σ 86 v1.toNat) = (σ 86 v2.toNat) → Q 0 σ) ∧ ((σ 86 v1.toNat) = (σ 86 v2.toNat) → (0 ≤ v1 ∧ v1 < 256) ∧ (0 ≤ σ 87 v1.toNat ∧ σ 87 v1.toNat < 256) ∧ (0 ≤ v2 ∧ v2 < 256) ∧ (0 ≤ σ 87 v2.toNat ∧ σ 87 v2.toNat < 256) ∧ (((σ 89 ((σ 87 v2.toNat).toNat)) ≤ (σ 89 ((σ 87 v1.toNat).toNat)) → Q 0 σ) ∧ ((σ 89 ((σ 87 v1.toNat).toNat)) < (σ 89 ((σ 87 v2.toNat).toNat)) → Q 1 σ))))))))))) : GX12_isAhead_0 X v1 v2 σ Q := by
  unfold GX12_isAhead_0
  refine V_rng (fun hR0 => ?_)
  have h := h hR0
  refine V_aload_n 0 rfl rfl dX12_isAhead_0 ?_
  refine V_getR (f := 25) ci_X12 sh_69 rfl (by decide) (c1 := 85) rfl dX12_isAhead_1 lk_RX12_f55 ?_
  refine V_iload_n 1 rfl rfl dX12_isAhead_4 ?_
  obtain ⟨g1, h⟩ := h
  refine V_iald sh_85 (by decide) g1 dX12_isAhead_5 ?_
  refine V_aload_n 0 rfl rfl dX12_isAhead_6 ?_
  refine V_getR (f := 25) ci_X12 sh_69 rfl (by decide) (c1 := 85) rfl dX12_isAhead_7 lk_RX12_f55 ?_
  refine V_iload_n 2 rfl rfl dX12_isAhead_10 ?_
  obtain ⟨g2, h⟩ := h
  refine V_iald sh_85 (by decide) g2 dX12_isAhead_11 ?_
  refine V_icmp_lt (tgt := 95) dX12_isAhead_12 (by decide) (show inI (σ 85 v1.toNat) from (inI_sh hR0 sh_85 (by decide))) (show inI (σ 85 v2.toNat) from (inI_sh hR0 sh_85 (by decide))) (fun q3 => ?_) (fun q3 => ?_)
  · have h := h.1 q3
    refine V_iconst dX12_isAhead_95 ?_
    refine V_goto (tgt := 100) dX12_isAhead_96 (by decide) ?_
    exact V_iret rfl (fun _ q => by cases q) (by decide) dX12_isAhead_100 h
  · have h := h.2 q3
    refine V_aload_n 0 rfl rfl dX12_isAhead_15 ?_
    refine V_getR (f := 25) ci_X12 sh_69 rfl (by decide) (c1 := 85) rfl dX12_isAhead_16 lk_RX12_f55 ?_
    refine V_iload_n 1 rfl rfl dX12_isAhead_19 ?_
    obtain ⟨g4, h⟩ := h
    refine V_iald sh_85 (by decide) g4 dX12_isAhead_20 ?_
    refine V_aload_n 0 rfl rfl dX12_isAhead_21 ?_
    refine V_getR (f := 25) ci_X12 sh_69 rfl (by decide) (c1 := 85) rfl dX12_isAhead_22 lk_RX12_f55 ?_
    refine V_iload_n 2 rfl rfl dX12_isAhead_25 ?_
    obtain ⟨g5, h⟩ := h
    refine V_iald sh_85 (by decide) g5 dX12_isAhead_26 ?_
    refine V_icmp_ne (tgt := 99) dX12_isAhead_27 (by decide) (show inI (σ 85 v1.toNat) from (inI_sh hR0 sh_85 (by decide))) (show inI (σ 85 v2.toNat) from (inI_sh hR0 sh_85 (by decide))) (fun q6 => ?_) (fun q6 => ?_)
    · have h := h.1 q6
      refine V_iconst dX12_isAhead_99 ?_
      exact V_iret rfl (fun _ q => by cases q) (by decide) dX12_isAhead_100 h
    · have h := h.2 q6
      refine V_aload_n 0 rfl rfl dX12_isAhead_30 ?_
      refine V_getR (f := 29) ci_X12 sh_69 rfl (by decide) (c1 := 89) rfl dX12_isAhead_31 lk_RX12_f67 ?_
      refine V_aload_n 0 rfl rfl dX12_isAhead_34 ?_
      refine V_getR (f := 26) ci_X12 sh_69 rfl (by decide) (c1 := 86) rfl dX12_isAhead_35 lk_RX12_f58 ?_
      refine V_iload_n 1 rfl rfl dX12_isAhead_38 ?_
      obtain ⟨g7, h⟩ := h
      refine V_iald sh_86 (by decide) g7 dX12_isAhead_39 ?_
      obtain ⟨g8, h⟩ := h
      refine V_iald sh_89 (by decide) g8 dX12_isAhead_40 ?_
      refine V_aload_n 0 rfl rfl dX12_isAhead_41 ?_
      refine V_getR (f := 29) ci_X12 sh_69 rfl (by decide) (c1 := 89) rfl dX12_isAhead_42 lk_RX12_f67 ?_
      refine V_aload_n 0 rfl rfl dX12_isAhead_45 ?_
      refine V_getR (f := 26) ci_X12 sh_69 rfl (by decide) (c1 := 86) rfl dX12_isAhead_46 lk_RX12_f58 ?_
      refine V_iload_n 2 rfl rfl dX12_isAhead_49 ?_
      obtain ⟨g9, h⟩ := h
      refine V_iald sh_86 (by decide) g9 dX12_isAhead_50 ?_
      obtain ⟨g10, h⟩ := h
      refine V_iald sh_89 (by decide) g10 dX12_isAhead_51 ?_
      refine V_icmp_lt (tgt := 95) dX12_isAhead_52 (by decide) (show inI (σ 89 ((σ 86 v1.toNat).toNat)) from (inI_sh hR0 sh_89 (by decide))) (show inI (σ 89 ((σ 86 v2.toNat).toNat)) from (inI_sh hR0 sh_89 (by decide))) (fun q11 => ?_) (fun q11 => ?_)
      · have h := h.1 q11
        refine V_iconst dX12_isAhead_95 ?_
        refine V_goto (tgt := 100) dX12_isAhead_96 (by decide) ?_
        exact V_iret rfl (fun _ q => by cases q) (by decide) dX12_isAhead_100 h
      · have h := h.2 q11
        refine V_aload_n 0 rfl rfl dX12_isAhead_55 ?_
        refine V_getR (f := 26) ci_X12 sh_69 rfl (by decide) (c1 := 86) rfl dX12_isAhead_56 lk_RX12_f58 ?_
        refine V_iload_n 1 rfl rfl dX12_isAhead_59 ?_
        obtain ⟨g12, h⟩ := h
        refine V_iald sh_86 (by decide) g12 dX12_isAhead_60 ?_
        refine V_aload_n 0 rfl rfl dX12_isAhead_61 ?_
        refine V_getR (f := 26) ci_X12 sh_69 rfl (by decide) (c1 := 86) rfl dX12_isAhead_62 lk_RX12_f58 ?_
        refine V_iload_n 2 rfl rfl dX12_isAhead_65 ?_
        obtain ⟨g13, h⟩ := h
        refine V_iald sh_86 (by decide) g13 dX12_isAhead_66 ?_
        refine V_icmp_ne (tgt := 99) dX12_isAhead_67 (by decide) (show inI (σ 86 v1.toNat) from (inI_sh hR0 sh_86 (by decide))) (show inI (σ 86 v2.toNat) from (inI_sh hR0 sh_86 (by decide))) (fun q14 => ?_) (fun q14 => ?_)
        · have h := h.1 q14
          refine V_iconst dX12_isAhead_99 ?_
          exact V_iret rfl (fun _ q => by cases q) (by decide) dX12_isAhead_100 h
        · have h := h.2 q14
          refine V_aload_n 0 rfl rfl dX12_isAhead_70 ?_
          refine V_getR (f := 29) ci_X12 sh_69 rfl (by decide) (c1 := 89) rfl dX12_isAhead_71 lk_RX12_f67 ?_
          refine V_aload_n 0 rfl rfl dX12_isAhead_74 ?_
          refine V_getR (f := 27) ci_X12 sh_69 rfl (by decide) (c1 := 87) rfl dX12_isAhead_75 lk_RX12_f61 ?_
          refine V_iload_n 1 rfl rfl dX12_isAhead_78 ?_
          obtain ⟨g15, h⟩ := h
          refine V_iald sh_87 (by decide) g15 dX12_isAhead_79 ?_
          obtain ⟨g16, h⟩ := h
          refine V_iald sh_89 (by decide) g16 dX12_isAhead_80 ?_
          refine V_aload_n 0 rfl rfl dX12_isAhead_81 ?_
          refine V_getR (f := 29) ci_X12 sh_69 rfl (by decide) (c1 := 89) rfl dX12_isAhead_82 lk_RX12_f67 ?_
          refine V_aload_n 0 rfl rfl dX12_isAhead_85 ?_
          refine V_getR (f := 27) ci_X12 sh_69 rfl (by decide) (c1 := 87) rfl dX12_isAhead_86 lk_RX12_f61 ?_
          refine V_iload_n 2 rfl rfl dX12_isAhead_89 ?_
          obtain ⟨g17, h⟩ := h
          refine V_iald sh_87 (by decide) g17 dX12_isAhead_90 ?_
          obtain ⟨g18, h⟩ := h
          refine V_iald sh_89 (by decide) g18 dX12_isAhead_91 ?_
          refine V_icmp_ge (tgt := 99) dX12_isAhead_92 (by decide) (show inI (σ 89 ((σ 87 v1.toNat).toNat)) from (inI_sh hR0 sh_89 (by decide))) (show inI (σ 89 ((σ 87 v2.toNat).toNat)) from (inI_sh hR0 sh_89 (by decide))) (fun q19 => ?_) (fun q19 => ?_)
          · have h := h.1 q19
            refine V_iconst dX12_isAhead_99 ?_
            exact V_iret rfl (fun _ q => by cases q) (by decide) dX12_isAhead_100 h
          · have h := h.2 q19
            refine V_iconst dX12_isAhead_95 ?_
            refine V_goto (tgt := 100) dX12_isAhead_96 (by decide) ?_
            exact V_iret rfl (fun _ q => by cases q) (by decide) dX12_isAhead_100 h
theorem eX12_isAhead {X : Cx} {v1 : Int} {v2 : Int} {σ : Sg} {Q : Int → Sg → Prop} (h : GX12_isAhead_0 X v1 v2 σ Q) : KX12_isAhead X v1 v2 σ Q := V_enter (by decide) (Nat.le_of_ble_eq_true rfl) rfl h
def GX12_settle_0 (X : Cx) (v1 : Int) (σ : Sg) (Q : Int → Sg → Prop) : Prop := VV X mX12_settle 0 [(0, .ref (cxA X 69)), (1, .int (gI v1))] [] σ Q
def GX12_settle_4 (X : Cx) (v1 : Int) (v2 : Int) (v3 : Int) (σ : Sg) (Q : Int → Sg → Prop) : Prop := VV X mX12_settle 4 [(0, .ref (cxA X 69)), (1, .int (gI v1)), (2, .int (gI v2)), (3, .int (gI v3))] [] σ Q
def GX12_settle_35 (X : Cx) (v1 : Int) (v2 : Int) (v3 : Int) (s0 : Int) (σ : Sg) (Q : Int → Sg → Prop) : Prop := VV X mX12_settle 35 [(0, .ref (cxA X 69)), (1, .int (gI v1)), (2, .int (gI v2)), (3, .int (gI v3))] [.int (gI s0)] σ Q
def GX12_settle_36 (X : Cx) (v1 : Int) (v2 : Int) (v3 : Int) (s0 : Int) (s1 : Int) (σ : Sg) (Q : Int → Sg → Prop) : Prop := VV X mX12_settle 36 [(0, .ref (cxA X 69)), (1, .int (gI v1)), (2, .int (gI v2)), (3, .int (gI v3))] [.int (gI s0), .int (gI s1)] σ Q
def GX12_settle_46 (X : Cx) (v1 : Int) (v2 : Int) (v3 : Int) (σ : Sg) (Q : Int → Sg → Prop) : Prop := VV X mX12_settle 46 [(0, .ref (cxA X 69)), (1, .int (gI v1)), (2, .int (gI v2)), (3, .int (gI v3))] [] σ Q
def GX12_settle_84 (X : Cx) (v1 : Int) (v2 : Int) (v3 : Int) (s0 : Int) (s1 : Int) (σ : Sg) (Q : Int → Sg → Prop) : Prop := VV X mX12_settle 84 [(0, .ref (cxA X 69)), (1, .int (gI v1)), (2, .int (gI v2)), (3, .int (gI v3))] [.int (gI s0), .int (gI s1), .ref (cxA X 89)] σ Q
def GX12_settle_85 (X : Cx) (v1 : Int) (v2 : Int) (v3 : Int) (s0 : Int) (s1 : Int) (s2 : Int) (σ : Sg) (Q : Int → Sg → Prop) : Prop := VV X mX12_settle 85 [(0, .ref (cxA X 69)), (1, .int (gI v1)), (2, .int (gI v2)), (3, .int (gI v3))] [.int (gI s0), .int (gI s1), .int (gI s2), .ref (cxA X 89)] σ Q
def GX12_settle_145 (X : Cx) (v1 : Int) (v2 : Int) (v3 : Int) (s0 : Int) (s1 : Int) (s2 : Int) (σ : Sg) (Q : Int → Sg → Prop) : Prop := VV X mX12_settle 145 [(0, .ref (cxA X 69)), (1, .int (gI v1)), (2, .int (gI v2)), (3, .int (gI v3))] [.int (gI s0), .int (gI s1), .int (gI s2), .ref (cxA X 88)] σ Q
set_option maxHeartbeats 2000000 in
set_option maxRecDepth 20000 in
theorem rX12_settle_0 {X : Cx} {v1 : Int} {σ : Sg} {Q : Int → Sg → Prop} (h : Rng σ → GX12_settle_4 X v1 0 0 σ Q) : GX12_settle_0 X v1 σ Q := by
  unfold GX12_settle_0
  refine V_rng (fun hR0 => ?_)
  have h := h hR0
  refine V_iconst dX12_settle_0 ?_
  refine V_istore_n (L' := [(2, .int (gI 0)), (0, .ref (cxA X 69)), (1, .int (gI v1))]) rfl (by decide) rfl dX12_settle_1 ?_
  refine V_iconst dX12_settle_2 ?_
  refine V_istore_n (L' := [(3, .int (gI 0)), (2, .int (gI 0)), (0, .ref (cxA X 69)), (1, .int (gI v1))]) rfl (by decide) rfl dX12_settle_3 ?_
  exact V_sub [2, 3, 1, 0] rfl h
set_option maxHeartbeats 2000000 in
set_option maxRecDepth 20000 in
theorem rX12_settle_4 {X : Cx} {v1 : Int} {v2 : Int} {v3 : Int} {σ : Sg} {Q : Int → Sg → Prop} (h : Rng σ → KX12_every X σ (fun r1 σ2 => Rng σ2 → (inI v3) ∧ (inI r1) ∧ ((r1 < v3 → GX12_settle_46 X v1 v2 0 σ2 Q) ∧ (v3 ≤ r1 → (0 ≤ v3 ∧ v3 < 256) ∧ (((σ2 90 v3.toNat) = 0 → GX12_settle_35 X v1 v2 v3 v2 σ2 Q) ∧ (¬ (σ2 90 v3.toNat) = 0 → KX12_isAhead X v3 v1 σ2 (fun r9 σ10 => Rng σ10 → (inI r9) ∧ ((r9 = 0 → GX12_settle_35 X v1 v2 v3 v2 σ10 Q) ∧ (¬ r9 = 0 → GX12_settle_36 X v1 v2 v3 1 v2 σ10 Q))))))))) : GX12_settle_4 X v1 v2 v3 σ Q := by
  unfold GX12_settle_4
  refine V_rng (fun hR0 => ?_)
  have h := h hR0
  refine V_iload_n 3 rfl rfl dX12_settle_4 ?_
  refine V_aload_n 0 rfl rfl dX12_settle_5 ?_
  refine V_cV (M' := mX12_every) (As := []) (fun r => [.int (gI r), .int (gI v3)]) ok_X12_every ok2_X12_every sh_69 rfl (by decide) rfl rfl (Nat.le_of_ble_eq_true rfl) dX12_settle_6 lk_RX12_m204 (by decide) (fun _ => rfl) h (fun r1 σ2 h => ?_)
  refine V_rng (fun hR3 => ?_)
  have h := h hR3
  obtain ⟨g4, h⟩ := h
  obtain ⟨g5, h⟩ := h
  refine V_icmp_gt (tgt := 44) dX12_settle_9 (by decide) g4 g5 (fun q6 => ?_) (fun q6 => ?_)
  · have h := h.1 q6
    refine V_iconst dX12_settle_44 ?_
    refine V_istore_n (L' := [(3, .int (gI 0)), (0, .ref (cxA X 69)), (1, .int (gI v1)), (2, .int (gI v2))]) rfl (by decide) rfl dX12_settle_45 ?_
    exact V_sub [1, 2, 3, 0] rfl h
  · have h := h.2 q6
    refine V_iload_n 2 rfl rfl dX12_settle_12 ?_
    refine V_aload_n 0 rfl rfl dX12_settle_13 ?_
    refine V_getR (f := 30) ci_X12 sh_69 rfl (by decide) (c1 := 90) rfl dX12_settle_14 lk_RX12_f70 ?_
    refine V_iload_n 3 rfl rfl dX12_settle_17 ?_
    obtain ⟨g7, h⟩ := h
    refine V_zald sh_90 (by decide) g7 dX12_settle_18 ?_
    refine V_if_eq (tgt := 35) dX12_settle_19 (by decide) (show inI (σ2 90 v3.toNat) from (inI_sh hR3 sh_90 (by decide))) (fun q8 => ?_) (fun q8 => ?_)
    · have h := h.1 q8
      exact h
    · have h := h.2 q8
      refine V_aload_n 0 rfl rfl dX12_settle_22 ?_
      refine V_iload_n 3 rfl rfl dX12_settle_23 ?_
      refine V_iload_n 1 rfl rfl dX12_settle_24 ?_
      refine V_cV (M' := mX12_isAhead) (As := [.int (gI v3), .int (gI v1)]) (fun r => [.int (gI r), .int (gI v2)]) ok_X12_isAhead ok2_X12_isAhead sh_69 rfl (by decide) rfl rfl (Nat.le_of_ble_eq_true rfl) dX12_settle_25 lk_RX12_m235 (by decide) (fun _ => rfl) h (fun r9 σ10 h => ?_)
      refine V_rng (fun hR11 => ?_)
      have h := h hR11
      obtain ⟨g12, h⟩ := h
      refine V_if_eq (tgt := 35) dX12_settle_28 (by decide) g12 (fun q13 => ?_) (fun q13 => ?_)
      · have h := h.1 q13
        exact h
      · have h := h.2 q13
        refine V_iconst dX12_settle_31 ?_
        refine V_goto (tgt := 36) dX12_settle_32 (by decide) ?_
        exact h
set_option maxHeartbeats 2000000 in
set_option maxRecDepth 20000 in
theorem rX12_settle_35 {X : Cx} {v1 : Int} {v2 : Int} {v3 : Int} {s0 : Int} {σ : Sg} {Q : Int → Sg → Prop} (h : Rng σ → GX12_settle_36 X v1 v2 v3 0 s0 σ Q) : GX12_settle_35 X v1 v2 v3 s0 σ Q := by
  unfold GX12_settle_35
  refine V_rng (fun hR0 => ?_)
  have h := h hR0
  refine V_iconst dX12_settle_35 ?_
  exact h
set_option maxHeartbeats 2000000 in
set_option maxRecDepth 20000 in
theorem rX12_settle_36 {X : Cx} {v1 : Int} {v2 : Int} {v3 : Int} {s0 : Int} {s1 : Int} {σ : Sg} {Q : Int → Sg → Prop} (h : Rng σ → GX12_settle_4 X v1 (s1 + s0) (v3 + 1) σ Q) : GX12_settle_36 X v1 v2 v3 s0 s1 σ Q := by
  unfold GX12_settle_36
  refine V_rng (fun hR0 => ?_)
  have h := h hR0
  refine V_iadd dX12_settle_36 ?_
  refine V_istore_n (L' := [(2, .int (gI (s1 + s0))), (0, .ref (cxA X 69)), (1, .int (gI v1)), (3, .int (gI v3))]) rfl (by decide) rfl dX12_settle_37 ?_
  refine V_iinc (L' := [(3, .int (gI (v3 + 1))), (2, .int (gI (s1 + s0))), (0, .ref (cxA X 69)), (1, .int (gI v1))]) 3 rfl (by decide) rfl dX12_settle_38 ?_
  refine V_goto (tgt := 4) dX12_settle_41 (by decide) ?_
  exact V_sub [2, 3, 1, 0] rfl h
set_option maxHeartbeats 2000000 in
set_option maxRecDepth 20000 in
theorem rX12_settle_46 {X : Cx} {v1 : Int} {v2 : Int} {v3 : Int} {σ : Sg} {Q : Int → Sg → Prop} (h : Rng σ → KX12_every X σ (fun r1 σ2 => Rng σ2 → (inI v3) ∧ (inI r1) ∧ ((r1 < v3 → (0 ≤ v1 ∧ v1 < 256) ∧ (inI v2) ∧ (0 ≤ v1 ∧ v1 < 256) ∧ (0 ≤ v1 ∧ v1 < 256) ∧ KX12_needs X (zdiv (σ2 85 v1.toNat) 8) (up2 (up2 σ2 89 v1.toNat v2) 90 v1.toNat 1) (fun r11 σ12 => Rng σ12 → (inI r11) ∧ ((r11 ≤ 0 → GX12_settle_145 X v1 v2 (zdiv (σ2 85 v1.toNat) 8) 0 1 v1 σ12 Q) ∧ (0 < r11 → (0 ≤ v1 ∧ v1 < 256) ∧ (0 ≤ σ12 86 v1.toNat ∧ σ12 86 v1.toNat < 256) ∧ GX12_settle_145 X v1 v2 (zdiv (σ2 85 v1.toNat) 8) (σ12 88 ((σ12 86 v1.toNat).toNat)) 1 v1 σ12 Q)))) ∧ (v3 ≤ r1 → (0 ≤ v3 ∧ v3 < 256) ∧ (0 ≤ v3 ∧ v3 < 256) ∧ (((σ2 90 v3.toNat) = 0 → GX12_settle_84 X v1 v2 v3 (σ2 89 v3.toNat) v3 σ2 Q) ∧ (¬ (σ2 90 v3.toNat) = 0 → (0 ≤ v3 ∧ v3 < 256) ∧ (inI v2) ∧ (((σ2 89 v3.toNat) < v2 → GX12_settle_84 X v1 v2 v3 (σ2 89 v3.toNat) v3 σ2 Q) ∧ (v2 ≤ (σ2 89 v3.toNat) → GX12_settle_85 X v1 v2 v3 1 (σ2 89 v3.toNat) v3 σ2 Q)))))))) : GX12_settle_46 X v1 v2 v3 σ Q := by
  unfold GX12_settle_46
  refine V_rng (fun hR0 => ?_)
  have h := h hR0
  refine V_iload_n 3 rfl rfl dX12_settle_46 ?_
  refine V_aload_n 0 rfl rfl dX12_settle_47 ?_
  refine V_cV (M' := mX12_every) (As := []) (fun r => [.int (gI r), .int (gI v3)]) ok_X12_every ok2_X12_every sh_69 rfl (by decide) rfl rfl (Nat.le_of_ble_eq_true rfl) dX12_settle_48 lk_RX12_m204 (by decide) (fun _ => rfl) h (fun r1 σ2 h => ?_)
  refine V_rng (fun hR3 => ?_)
  have h := h hR3
  obtain ⟨g4, h⟩ := h
  obtain ⟨g5, h⟩ := h
  refine V_icmp_gt (tgt := 93) dX12_settle_51 (by decide) g4 g5 (fun q6 => ?_) (fun q6 => ?_)
  · have h := h.1 q6
    refine V_aload_n 0 rfl rfl dX12_settle_93 ?_
    refine V_getR (f := 29) ci_X12 sh_69 rfl (by decide) (c1 := 89) rfl dX12_settle_94 lk_RX12_f67 ?_
    refine V_iload_n 1 rfl rfl dX12_settle_97 ?_
    refine V_iload_n 2 rfl rfl dX12_settle_98 ?_
    obtain ⟨g7, h⟩ := h
    obtain ⟨g8, h⟩ := h
    refine V_iast sh_89 (by decide) g7 g8 dX12_settle_99 ?_
    refine V_aload_n 0 rfl rfl dX12_settle_100 ?_
    refine V_getR (f := 30) ci_X12 sh_69 rfl (by decide) (c1 := 90) rfl dX12_settle_101 lk_RX12_f70 ?_
    refine V_iload_n 1 rfl rfl dX12_settle_104 ?_
    refine V_iconst dX12_settle_105 ?_
    obtain ⟨g9, h⟩ := h
    refine V_zast sh_90 (by decide) g9 (by decide) dX12_settle_106 ?_
    refine V_aload_n 0 rfl rfl dX12_settle_107 ?_
    refine V_getR (f := 25) ci_X12 sh_69 rfl (by decide) (c1 := 85) rfl dX12_settle_108 lk_RX12_f55 ?_
    refine V_iload_n 1 rfl rfl dX12_settle_111 ?_
    obtain ⟨g10, h⟩ := h
    refine V_iald sh_85 (by decide) g10 dX12_settle_112 ?_
    refine V_bipush (v := 8) (by decide) dX12_settle_113 ?_
    refine V_idiv (by decide) dX12_settle_115 ?_
    refine V_istore_n (L' := [(3, .int (gI (zdiv (σ2 85 v1.toNat) 8))), (0, .ref (cxA X 69)), (1, .int (gI v1)), (2, .int (gI v2))]) rfl (by decide) rfl dX12_settle_116 ?_
    refine V_aload_n 1 rfl rfl dX12_settle_117 ?_
    refine V_getR (f := 28) ci_X12 sh_69 rfl (by decide) (c1 := 88) rfl dX12_settle_118 lk_RX12_f64 ?_
    refine V_iload_n 2 rfl rfl dX12_settle_121 ?_
    refine V_iconst dX12_settle_122 ?_
    refine V_iload_n 0 rfl rfl dX12_settle_123 ?_
    refine V_cS (M' := mX12_needs) (As := [.int (gI (zdiv (σ2 85 v1.toNat) 8))]) (fun r => [.int (gI r), .int (gI 1), .int (gI v1), .ref (cxA X 88)]) ok_X12_needs ok2_X12_needs rfl rfl (Nat.le_of_ble_eq_true rfl) dX12_settle_124 lk_RX12_m198 (by decide) (fun _ => rfl) h (fun r11 σ12 h => ?_)
    refine V_rng (fun hR13 => ?_)
    have h := h hR13
    obtain ⟨g14, h⟩ := h
    refine V_if_le (tgt := 144) dX12_settle_127 (by decide) g14 (fun q15 => ?_) (fun q15 => ?_)
    · have h := h.1 q15
      refine V_iconst dX12_settle_144 ?_
      exact V_sub [1, 2, 3, 0] rfl h
    · have h := h.2 q15
      refine V_aload_n 1 rfl rfl dX12_settle_130 ?_
      refine V_getR (f := 28) ci_X12 sh_69 rfl (by decide) (c1 := 88) rfl dX12_settle_131 lk_RX12_f64 ?_
      refine V_aload_n 1 rfl rfl dX12_settle_134 ?_
      refine V_getR (f := 26) ci_X12 sh_69 rfl (by decide) (c1 := 86) rfl dX12_settle_135 lk_RX12_f58 ?_
      refine V_iload_n 2 rfl rfl dX12_settle_138 ?_
      obtain ⟨g16, h⟩ := h
      refine V_iald sh_86 (by decide) g16 dX12_settle_139 ?_
      obtain ⟨g17, h⟩ := h
      refine V_iald sh_88 (by decide) g17 dX12_settle_140 ?_
      refine V_goto (tgt := 145) dX12_settle_141 (by decide) ?_
      exact V_sub [1, 2, 3, 0] rfl h
  · have h := h.2 q6
    refine V_aload_n 0 rfl rfl dX12_settle_54 ?_
    refine V_getR (f := 29) ci_X12 sh_69 rfl (by decide) (c1 := 89) rfl dX12_settle_55 lk_RX12_f67 ?_
    refine V_iload_n 3 rfl rfl dX12_settle_58 ?_
    refine V_dup2 rfl rfl dX12_settle_59 ?_
    obtain ⟨g18, h⟩ := h
    refine V_iald sh_89 (by decide) g18 dX12_settle_60 ?_
    refine V_aload_n 0 rfl rfl dX12_settle_61 ?_
    refine V_getR (f := 30) ci_X12 sh_69 rfl (by decide) (c1 := 90) rfl dX12_settle_62 lk_RX12_f70 ?_
    refine V_iload_n 3 rfl rfl dX12_settle_65 ?_
    obtain ⟨g19, h⟩ := h
    refine V_zald sh_90 (by decide) g19 dX12_settle_66 ?_
    refine V_if_eq (tgt := 84) dX12_settle_67 (by decide) (show inI (σ2 90 v3.toNat) from (inI_sh hR3 sh_90 (by decide))) (fun q20 => ?_) (fun q20 => ?_)
    · have h := h.1 q20
      exact h
    · have h := h.2 q20
      refine V_aload_n 0 rfl rfl dX12_settle_70 ?_
      refine V_getR (f := 29) ci_X12 sh_69 rfl (by decide) (c1 := 89) rfl dX12_settle_71 lk_RX12_f67 ?_
      refine V_iload_n 3 rfl rfl dX12_settle_74 ?_
      obtain ⟨g21, h⟩ := h
      refine V_iald sh_89 (by decide) g21 dX12_settle_75 ?_
      refine V_iload_n 2 rfl rfl dX12_settle_76 ?_
      obtain ⟨g22, h⟩ := h
      refine V_icmp_lt (tgt := 84) dX12_settle_77 (by decide) (show inI (σ2 89 v3.toNat) from (inI_sh hR3 sh_89 (by decide))) g22 (fun q23 => ?_) (fun q23 => ?_)
      · have h := h.1 q23
        exact h
      · have h := h.2 q23
        refine V_iconst dX12_settle_80 ?_
        refine V_goto (tgt := 85) dX12_settle_81 (by decide) ?_
        exact h
set_option maxHeartbeats 2000000 in
set_option maxRecDepth 20000 in
theorem rX12_settle_84 {X : Cx} {v1 : Int} {v2 : Int} {v3 : Int} {s0 : Int} {s1 : Int} {σ : Sg} {Q : Int → Sg → Prop} (h : Rng σ → GX12_settle_85 X v1 v2 v3 0 s0 s1 σ Q) : GX12_settle_84 X v1 v2 v3 s0 s1 σ Q := by
  unfold GX12_settle_84
  refine V_rng (fun hR0 => ?_)
  have h := h hR0
  refine V_iconst dX12_settle_84 ?_
  exact h
set_option maxHeartbeats 2000000 in
set_option maxRecDepth 20000 in
theorem rX12_settle_85 {X : Cx} {v1 : Int} {v2 : Int} {v3 : Int} {s0 : Int} {s1 : Int} {s2 : Int} {σ : Sg} {Q : Int → Sg → Prop} (h : Rng σ → (0 ≤ s2 ∧ s2 < 256) ∧ (inI (s1 + s0)) ∧ GX12_settle_46 X v1 v2 (v3 + 1) (up2 σ 89 s2.toNat (s1 + s0)) Q) : GX12_settle_85 X v1 v2 v3 s0 s1 s2 σ Q := by
  unfold GX12_settle_85
  refine V_rng (fun hR0 => ?_)
  have h := h hR0
  refine V_iadd dX12_settle_85 ?_
  obtain ⟨g1, h⟩ := h
  obtain ⟨g2, h⟩ := h
  refine V_iast sh_89 (by decide) g1 g2 dX12_settle_86 ?_
  refine V_iinc (L' := [(3, .int (gI (v3 + 1))), (0, .ref (cxA X 69)), (1, .int (gI v1)), (2, .int (gI v2))]) 3 rfl (by decide) rfl dX12_settle_87 ?_
  refine V_goto (tgt := 46) dX12_settle_90 (by decide) ?_
  exact V_sub [1, 2, 3, 0] rfl h
set_option maxHeartbeats 2000000 in
set_option maxRecDepth 20000 in
theorem rX12_settle_145 {X : Cx} {v1 : Int} {v2 : Int} {v3 : Int} {s0 : Int} {s1 : Int} {s2 : Int} {σ : Sg} {Q : Int → Sg → Prop} (h : Rng σ → KX12_needs X v3 σ (fun r1 σ2 => Rng σ2 → (inI r1) ∧ ((r1 ≤ 1 → (0 ≤ s2 ∧ s2 < 256) ∧ (inI ((s1 + s0) + 0)) ∧ Q 0 (up2 σ2 88 s2.toNat ((s1 + s0) + 0))) ∧ (1 < r1 → (0 ≤ v1 ∧ v1 < 256) ∧ (0 ≤ σ2 87 v1.toNat ∧ σ2 87 v1.toNat < 256) ∧ (0 ≤ s2 ∧ s2 < 256) ∧ (inI ((s1 + s0) + (σ2 88 ((σ2 87 v1.toNat).toNat)))) ∧ Q 0 (up2 σ2 88 s2.toNat ((s1 + s0) + (σ2 88 ((σ2 87 v1.toNat).toNat)))))))) : GX12_settle_145 X v1 v2 v3 s0 s1 s2 σ Q := by
  unfold GX12_settle_145
  refine V_rng (fun hR0 => ?_)
  have h := h hR0
  refine V_iadd dX12_settle_145 ?_
  refine V_iload_n 3 rfl rfl dX12_settle_146 ?_
  refine V_cS (M' := mX12_needs) (As := [.int (gI v3)]) (fun r => [.int (gI r), .int (gI (s1 + s0)), .int (gI s2), .ref (cxA X 88)]) ok_X12_needs ok2_X12_needs rfl rfl (Nat.le_of_ble_eq_true rfl) dX12_settle_147 lk_RX12_m198 (by decide) (fun _ => rfl) h (fun r1 σ2 h => ?_)
  refine V_rng (fun hR3 => ?_)
  have h := h hR3
  refine V_iconst dX12_settle_150 ?_
  obtain ⟨g4, h⟩ := h
  refine V_icmp_le (tgt := 168) dX12_settle_151 (by decide) g4 (by decide) (fun q5 => ?_) (fun q5 => ?_)
  · have h := h.1 q5
    refine V_iconst dX12_settle_168 ?_
    refine V_iadd dX12_settle_169 ?_
    obtain ⟨g6, h⟩ := h
    obtain ⟨g7, h⟩ := h
    refine V_iast sh_88 (by decide) g6 g7 dX12_settle_170 ?_
    exact V_vret rfl dX12_settle_171 h
  · have h := h.2 q5
    refine V_aload_n 0 rfl rfl dX12_settle_154 ?_
    refine V_getR (f := 28) ci_X12 sh_69 rfl (by decide) (c1 := 88) rfl dX12_settle_155 lk_RX12_f64 ?_
    refine V_aload_n 0 rfl rfl dX12_settle_158 ?_
    refine V_getR (f := 27) ci_X12 sh_69 rfl (by decide) (c1 := 87) rfl dX12_settle_159 lk_RX12_f61 ?_
    refine V_iload_n 1 rfl rfl dX12_settle_162 ?_
    obtain ⟨g8, h⟩ := h
    refine V_iald sh_87 (by decide) g8 dX12_settle_163 ?_
    obtain ⟨g9, h⟩ := h
    refine V_iald sh_88 (by decide) g9 dX12_settle_164 ?_
    refine V_goto (tgt := 169) dX12_settle_165 (by decide) ?_
    refine V_iadd dX12_settle_169 ?_
    obtain ⟨g10, h⟩ := h
    obtain ⟨g11, h⟩ := h
    refine V_iast sh_88 (by decide) g10 g11 dX12_settle_170 ?_
    exact V_vret rfl dX12_settle_171 h
theorem eX12_settle {X : Cx} {v1 : Int} {σ : Sg} {Q : Int → Sg → Prop} (h : GX12_settle_0 X v1 σ Q) : KX12_settle X v1 σ Q := V_enter (by decide) (Nat.le_of_ble_eq_true rfl) rfl h
def GX12_cheapestLeft_0 (X : Cx) (σ : Sg) (Q : Int → Sg → Prop) : Prop := VV X mX12_cheapestLeft 0 [(0, .ref (cxA X 69))] [] σ Q
def GX12_cheapestLeft_4 (X : Cx) (v1 : Int) (v2 : Int) (σ : Sg) (Q : Int → Sg → Prop) : Prop := VV X mX12_cheapestLeft 4 [(0, .ref (cxA X 69)), (1, .int (gI v1)), (2, .int (gI v2))] [] σ Q
def GX12_cheapestLeft_51 (X : Cx) (v1 : Int) (v2 : Int) (σ : Sg) (Q : Int → Sg → Prop) : Prop := VV X mX12_cheapestLeft 51 [(0, .ref (cxA X 69)), (1, .int (gI v1)), (2, .int (gI v2))] [] σ Q
def GX12_cheapestLeft_55 (X : Cx) (v1 : Int) (v2 : Int) (σ : Sg) (Q : Int → Sg → Prop) : Prop := VV X mX12_cheapestLeft 55 [(0, .ref (cxA X 69)), (1, .int (gI v1)), (2, .int (gI v2))] [] σ Q
def GX12_cheapestLeft_56 (X : Cx) (v1 : Int) (v2 : Int) (s0 : Int) (σ : Sg) (Q : Int → Sg → Prop) : Prop := VV X mX12_cheapestLeft 56 [(0, .ref (cxA X 69)), (1, .int (gI v1)), (2, .int (gI v2))] [.int (gI s0)] σ Q
set_option maxHeartbeats 2000000 in
set_option maxRecDepth 20000 in
theorem rX12_cheapestLeft_0 {X : Cx} {σ : Sg} {Q : Int → Sg → Prop} (h : Rng σ → GX12_cheapestLeft_4 X ((-1)) 0 σ Q) : GX12_cheapestLeft_0 X σ Q := by
  unfold GX12_cheapestLeft_0
  refine V_rng (fun hR0 => ?_)
  have h := h hR0
  refine V_iconst dX12_cheapestLeft_0 ?_
  refine V_istore_n (L' := [(1, .int (gI ((-1)))), (0, .ref (cxA X 69))]) rfl (by decide) rfl dX12_cheapestLeft_1 ?_
  refine V_iconst dX12_cheapestLeft_2 ?_
  refine V_istore_n (L' := [(2, .int (gI 0)), (1, .int (gI ((-1)))), (0, .ref (cxA X 69))]) rfl (by decide) rfl dX12_cheapestLeft_3 ?_
  exact V_sub [2, 1, 0] rfl h
set_option maxHeartbeats 2000000 in
set_option maxRecDepth 20000 in
theorem rX12_cheapestLeft_4 {X : Cx} {v1 : Int} {v2 : Int} {σ : Sg} {Q : Int → Sg → Prop} (h : Rng σ → KX12_every X σ (fun r1 σ2 => Rng σ2 → (inI v2) ∧ (inI r1) ∧ ((r1 < v2 → Q v1 σ2) ∧ (v2 ≤ r1 → (0 ≤ v2 ∧ v2 < 256) ∧ ((¬ (σ2 90 v2.toNat) = 0 → GX12_cheapestLeft_55 X v1 v2 σ2 Q) ∧ ((σ2 90 v2.toNat) = 0 → (0 ≤ v2 ∧ v2 < 256) ∧ (((σ2 84 v2.toNat) = ((-1)) → GX12_cheapestLeft_55 X v1 v2 σ2 Q) ∧ (¬ (σ2 84 v2.toNat) = ((-1)) → (inI v1) ∧ ((v1 = ((-1)) → GX12_cheapestLeft_51 X v1 v2 σ2 Q) ∧ (¬ v1 = ((-1)) → (0 ≤ v2 ∧ v2 < 256) ∧ (0 ≤ v1 ∧ v1 < 256) ∧ (((σ2 84 v1.toNat) ≤ (σ2 84 v2.toNat) → GX12_cheapestLeft_55 X v1 v2 σ2 Q) ∧ ((σ2 84 v2.toNat) < (σ2 84 v1.toNat) → GX12_cheapestLeft_51 X v1 v2 σ2 Q)))))))))))) : GX12_cheapestLeft_4 X v1 v2 σ Q := by
  unfold GX12_cheapestLeft_4
  refine V_rng (fun hR0 => ?_)
  have h := h hR0
  refine V_iload_n 2 rfl rfl dX12_cheapestLeft_4 ?_
  refine V_aload_n 0 rfl rfl dX12_cheapestLeft_5 ?_
  refine V_cV (M' := mX12_every) (As := []) (fun r => [.int (gI r), .int (gI v2)]) ok_X12_every ok2_X12_every sh_69 rfl (by decide) rfl rfl (Nat.le_of_ble_eq_true rfl) dX12_cheapestLeft_6 lk_RX12_m204 (by decide) (fun _ => rfl) h (fun r1 σ2 h => ?_)
  refine V_rng (fun hR3 => ?_)
  have h := h hR3
  obtain ⟨g4, h⟩ := h
  obtain ⟨g5, h⟩ := h
  refine V_icmp_gt (tgt := 63) dX12_cheapestLeft_9 (by decide) g4 g5 (fun q6 => ?_) (fun q6 => ?_)
  · have h := h.1 q6
    refine V_iload_n 1 rfl rfl dX12_cheapestLeft_63 ?_
    exact V_iret rfl (fun _ q => by cases q) (vp_nar_int _) dX12_cheapestLeft_64 h
  · have h := h.2 q6
    refine V_aload_n 0 rfl rfl dX12_cheapestLeft_12 ?_
    refine V_getR (f := 30) ci_X12 sh_69 rfl (by decide) (c1 := 90) rfl dX12_cheapestLeft_13 lk_RX12_f70 ?_
    refine V_iload_n 2 rfl rfl dX12_cheapestLeft_16 ?_
    obtain ⟨g7, h⟩ := h
    refine V_zald sh_90 (by decide) g7 dX12_cheapestLeft_17 ?_
    refine V_if_ne (tgt := 55) dX12_cheapestLeft_18 (by decide) (show inI (σ2 90 v2.toNat) from (inI_sh hR3 sh_90 (by decide))) (fun q8 => ?_) (fun q8 => ?_)
    · have h := h.1 q8
      exact h
    · have h := h.2 q8
      refine V_aload_n 0 rfl rfl dX12_cheapestLeft_21 ?_
      refine V_getR (f := 24) ci_X12 sh_69 rfl (by decide) (c1 := 84) rfl dX12_cheapestLeft_22 lk_RX12_f52 ?_
      refine V_iload_n 2 rfl rfl dX12_cheapestLeft_25 ?_
      obtain ⟨g9, h⟩ := h
      refine V_iald sh_84 (by decide) g9 dX12_cheapestLeft_26 ?_
      refine V_iconst dX12_cheapestLeft_27 ?_
      refine V_icmp_eq (tgt := 55) dX12_cheapestLeft_28 (by decide) (show inI (σ2 84 v2.toNat) from (inI_sh hR3 sh_84 (by decide))) (by decide) (fun q10 => ?_) (fun q10 => ?_)
      · have h := h.1 q10
        exact h
      · have h := h.2 q10
        refine V_iload_n 1 rfl rfl dX12_cheapestLeft_31 ?_
        refine V_iconst dX12_cheapestLeft_32 ?_
        obtain ⟨g11, h⟩ := h
        refine V_icmp_eq (tgt := 51) dX12_cheapestLeft_33 (by decide) g11 (by decide) (fun q12 => ?_) (fun q12 => ?_)
        · have h := h.1 q12
          exact h
        · have h := h.2 q12
          refine V_aload_n 0 rfl rfl dX12_cheapestLeft_36 ?_
          refine V_getR (f := 24) ci_X12 sh_69 rfl (by decide) (c1 := 84) rfl dX12_cheapestLeft_37 lk_RX12_f52 ?_
          refine V_iload_n 2 rfl rfl dX12_cheapestLeft_40 ?_
          obtain ⟨g13, h⟩ := h
          refine V_iald sh_84 (by decide) g13 dX12_cheapestLeft_41 ?_
          refine V_aload_n 0 rfl rfl dX12_cheapestLeft_42 ?_
          refine V_getR (f := 24) ci_X12 sh_69 rfl (by decide) (c1 := 84) rfl dX12_cheapestLeft_43 lk_RX12_f52 ?_
          refine V_iload_n 1 rfl rfl dX12_cheapestLeft_46 ?_
          obtain ⟨g14, h⟩ := h
          refine V_iald sh_84 (by decide) g14 dX12_cheapestLeft_47 ?_
          refine V_icmp_ge (tgt := 55) dX12_cheapestLeft_48 (by decide) (show inI (σ2 84 v2.toNat) from (inI_sh hR3 sh_84 (by decide))) (show inI (σ2 84 v1.toNat) from (inI_sh hR3 sh_84 (by decide))) (fun q15 => ?_) (fun q15 => ?_)
          · have h := h.1 q15
            exact h
          · have h := h.2 q15
            exact h
set_option maxHeartbeats 2000000 in
set_option maxRecDepth 20000 in
theorem rX12_cheapestLeft_51 {X : Cx} {v1 : Int} {v2 : Int} {σ : Sg} {Q : Int → Sg → Prop} (h : Rng σ → GX12_cheapestLeft_56 X v1 v2 v2 σ Q) : GX12_cheapestLeft_51 X v1 v2 σ Q := by
  unfold GX12_cheapestLeft_51
  refine V_rng (fun hR0 => ?_)
  have h := h hR0
  refine V_iload_n 2 rfl rfl dX12_cheapestLeft_51 ?_
  refine V_goto (tgt := 56) dX12_cheapestLeft_52 (by decide) ?_
  exact h
set_option maxHeartbeats 2000000 in
set_option maxRecDepth 20000 in
theorem rX12_cheapestLeft_55 {X : Cx} {v1 : Int} {v2 : Int} {σ : Sg} {Q : Int → Sg → Prop} (h : Rng σ → GX12_cheapestLeft_56 X v1 v2 v1 σ Q) : GX12_cheapestLeft_55 X v1 v2 σ Q := by
  unfold GX12_cheapestLeft_55
  refine V_rng (fun hR0 => ?_)
  have h := h hR0
  refine V_iload_n 1 rfl rfl dX12_cheapestLeft_55 ?_
  exact h
set_option maxHeartbeats 2000000 in
set_option maxRecDepth 20000 in
theorem rX12_cheapestLeft_56 {X : Cx} {v1 : Int} {v2 : Int} {s0 : Int} {σ : Sg} {Q : Int → Sg → Prop} (h : Rng σ → GX12_cheapestLeft_4 X s0 (v2 + 1) σ Q) : GX12_cheapestLeft_56 X v1 v2 s0 σ Q := by
  unfold GX12_cheapestLeft_56
  refine V_rng (fun hR0 => ?_)
  have h := h hR0
  refine V_istore_n (L' := [(1, .int (gI s0)), (0, .ref (cxA X 69)), (2, .int (gI v2))]) rfl (by decide) rfl dX12_cheapestLeft_56 ?_
  refine V_iinc (L' := [(2, .int (gI (v2 + 1))), (1, .int (gI s0)), (0, .ref (cxA X 69))]) 2 rfl (by decide) rfl dX12_cheapestLeft_57 ?_
  refine V_goto (tgt := 4) dX12_cheapestLeft_60 (by decide) ?_
  exact V_sub [2, 1, 0] rfl h
theorem eX12_cheapestLeft {X : Cx} {σ : Sg} {Q : Int → Sg → Prop} (h : GX12_cheapestLeft_0 X σ Q) : KX12_cheapestLeft X σ Q := V_enter (by decide) (Nat.le_of_ble_eq_true rfl) rfl h
def GX12_search_0 (X : Cx) (v1 : Int) (σ : Sg) (Q : Int → Sg → Prop) : Prop := VV X mX12_search 0 [(0, .ref (cxA X 69)), (1, .int (gI v1))] [] σ Q
def GX12_search_2 (X : Cx) (v1 : Int) (v2 : Int) (σ : Sg) (Q : Int → Sg → Prop) : Prop := VV X mX12_search 2 [(0, .ref (cxA X 69)), (1, .int (gI v1)), (2, .int (gI v2))] [] σ Q
def GX12_search_38 (X : Cx) (v1 : Int) (v2 : Int) (σ : Sg) (Q : Int → Sg → Prop) : Prop := VV X mX12_search 38 [(0, .ref (cxA X 69)), (1, .int (gI v1)), (2, .int (gI v2))] [] σ Q
def GX12_search_45 (X : Cx) (v1 : Int) (v2 : Int) (v3 : Int) (σ : Sg) (Q : Int → Sg → Prop) : Prop := VV X mX12_search 45 [(0, .ref (cxA X 69)), (1, .int (gI v1)), (2, .int (gI v2)), (3, .int (gI v3))] [] σ Q
def GX12_search_64 (X : Cx) (v1 : Int) (v2 : Int) (v3 : Int) (s0 : Int) (s1 : Int) (σ : Sg) (Q : Int → Sg → Prop) : Prop := VV X mX12_search 64 [(0, .ref (cxA X 69)), (1, .int (gI v1)), (2, .int (gI v2)), (3, .int (gI v3))] [.int (gI s0), .int (gI s1)] σ Q
def GX12_search_106 (X : Cx) (v1 : Int) (v2 : Int) (v3 : Int) (σ : Sg) (Q : Int → Sg → Prop) : Prop := VV X mX12_search 106 [(0, .ref (cxA X 69)), (1, .int (gI v1)), (2, .int (gI v2)), (3, .int (gI v3))] [] σ Q
def GX12_search_117 (X : Cx) (v1 : Int) (v2 : Int) (σ : Sg) (Q : Int → Sg → Prop) : Prop := VV X mX12_search 117 [(0, .ref (cxA X 69)), (1, .int (gI v1)), (2, .int (gI v2))] [] σ Q
def GX12_search_129 (X : Cx) (v1 : Int) (v2 : Int) (v3 : Int) (σ : Sg) (Q : Int → Sg → Prop) : Prop := VV X mX12_search 129 [(0, .ref (cxA X 69)), (1, .int (gI v1)), (2, .int (gI v2)), (3, .int (gI v3))] [] σ Q
def GX12_search_182 (X : Cx) (v1 : Int) (v2 : Int) (v3 : Int) (σ : Sg) (Q : Int → Sg → Prop) : Prop := VV X mX12_search 182 [(0, .ref (cxA X 69)), (1, .int (gI v1)), (2, .int (gI v2)), (3, .int (gI v3))] [] σ Q
def GX12_search_185 (X : Cx) (v1 : Int) (v2 : Int) (v3 : Int) (v4 : Int) (σ : Sg) (Q : Int → Sg → Prop) : Prop := VV X mX12_search 185 [(0, .ref (cxA X 69)), (1, .int (gI v1)), (2, .int (gI v2)), (3, .int (gI v3)), (4, .int (gI v4))] [] σ Q
def GX12_search_301 (X : Cx) (v1 : Int) (v2 : Int) (v3 : Int) (v4 : Int) (σ : Sg) (Q : Int → Sg → Prop) : Prop := VV X mX12_search 301 [(0, .ref (cxA X 69)), (1, .int (gI v1)), (2, .int (gI v2)), (3, .int (gI v3)), (4, .int (gI v4))] [] σ Q
def GX12_search_307 (X : Cx) (v1 : Int) (v2 : Int) (v3 : Int) (v4 : Int) (σ : Sg) (Q : Int → Sg → Prop) : Prop := VV X mX12_search 307 [(0, .ref (cxA X 69)), (1, .int (gI v1)), (2, .int (gI v2)), (3, .int (gI v3)), (4, .int (gI v4))] [] σ Q
set_option maxHeartbeats 2000000 in
set_option maxRecDepth 20000 in
theorem rX12_search_0 {X : Cx} {v1 : Int} {σ : Sg} {Q : Int → Sg → Prop} (h : Rng σ → GX12_search_2 X v1 0 σ Q) : GX12_search_0 X v1 σ Q := by
  unfold GX12_search_0
  refine V_rng (fun hR0 => ?_)
  have h := h hR0
  refine V_iconst dX12_search_0 ?_
  refine V_istore_n (L' := [(2, .int (gI 0)), (0, .ref (cxA X 69)), (1, .int (gI v1))]) rfl (by decide) rfl dX12_search_1 ?_
  exact V_sub [1, 2, 0] rfl h
set_option maxHeartbeats 2000000 in
set_option maxRecDepth 20000 in
theorem rX12_search_2 {X : Cx} {v1 : Int} {v2 : Int} {σ : Sg} {Q : Int → Sg → Prop} (h : Rng σ → (inI v2) ∧ ((256 ≤ v2 → GX12_search_38 X v1 0 σ Q) ∧ (v2 < 256 → (0 ≤ v2 ∧ v2 < 256) ∧ (0 ≤ v2 ∧ v2 < 256) ∧ (0 ≤ v2 ∧ v2 < 256) ∧ GX12_search_2 X v1 (v2 + 1) (up2 (up2 (up2 σ 84 v2.toNat ((-1))) 90 v2.toNat 0) 89 v2.toNat 0) Q))) : GX12_search_2 X v1 v2 σ Q := by
  unfold GX12_search_2
  refine V_rng (fun hR0 => ?_)
  have h := h hR0
  refine V_iload_n 2 rfl rfl dX12_search_2 ?_
  refine V_sipush (v := 256) (by decide) dX12_search_3 ?_
  obtain ⟨g1, h⟩ := h
  refine V_icmp_ge (tgt := 36) dX12_search_6 (by decide) g1 (by decide) (fun q2 => ?_) (fun q2 => ?_)
  · have h := h.1 q2
    refine V_iconst dX12_search_36 ?_
    refine V_istore_n (L' := [(2, .int (gI 0)), (0, .ref (cxA X 69)), (1, .int (gI v1))]) rfl (by decide) rfl dX12_search_37 ?_
    exact V_sub [1, 2, 0] rfl h
  · have h := h.2 q2
    refine V_aload_n 0 rfl rfl dX12_search_9 ?_
    refine V_getR (f := 24) ci_X12 sh_69 rfl (by decide) (c1 := 84) rfl dX12_search_10 lk_RX12_f52 ?_
    refine V_iload_n 2 rfl rfl dX12_search_13 ?_
    refine V_iconst dX12_search_14 ?_
    obtain ⟨g3, h⟩ := h
    refine V_iast sh_84 (by decide) g3 (by decide) dX12_search_15 ?_
    refine V_aload_n 0 rfl rfl dX12_search_16 ?_
    refine V_getR (f := 30) ci_X12 sh_69 rfl (by decide) (c1 := 90) rfl dX12_search_17 lk_RX12_f70 ?_
    refine V_iload_n 2 rfl rfl dX12_search_20 ?_
    refine V_iconst dX12_search_21 ?_
    obtain ⟨g4, h⟩ := h
    refine V_zast sh_90 (by decide) g4 (by decide) dX12_search_22 ?_
    refine V_aload_n 0 rfl rfl dX12_search_23 ?_
    refine V_getR (f := 29) ci_X12 sh_69 rfl (by decide) (c1 := 89) rfl dX12_search_24 lk_RX12_f67 ?_
    refine V_iload_n 2 rfl rfl dX12_search_27 ?_
    refine V_iconst dX12_search_28 ?_
    obtain ⟨g5, h⟩ := h
    refine V_iast sh_89 (by decide) g5 (by decide) dX12_search_29 ?_
    refine V_iinc (L' := [(2, .int (gI (v2 + 1))), (0, .ref (cxA X 69)), (1, .int (gI v1))]) 2 rfl (by decide) rfl dX12_search_30 ?_
    refine V_goto (tgt := 2) dX12_search_33 (by decide) ?_
    exact V_sub [1, 2, 0] rfl h
set_option maxHeartbeats 2000000 in
set_option maxRecDepth 20000 in
theorem rX12_search_38 {X : Cx} {v1 : Int} {v2 : Int} {σ : Sg} {Q : Int → Sg → Prop} (h : Rng σ → (inI v2) ∧ ((4 ≤ v2 → KX12_cheapestLeft X σ (fun r3 σ4 => Rng σ4 → GX12_search_117 X v1 r3 σ4 Q)) ∧ (v2 < 4 → GX12_search_45 X v1 v2 0 σ Q))) : GX12_search_38 X v1 v2 σ Q := by
  unfold GX12_search_38
  refine V_rng (fun hR0 => ?_)
  have h := h hR0
  refine V_iload_n 2 rfl rfl dX12_search_38 ?_
  refine V_iconst dX12_search_39 ?_
  obtain ⟨g1, h⟩ := h
  refine V_icmp_ge (tgt := 112) dX12_search_40 (by decide) g1 (by decide) (fun q2 => ?_) (fun q2 => ?_)
  · have h := h.1 q2
    refine V_aload_n 0 rfl rfl dX12_search_112 ?_
    refine V_cV (M' := mX12_cheapestLeft) (As := []) (fun r => [.int (gI r)]) ok_X12_cheapestLeft ok2_X12_cheapestLeft sh_69 rfl (by decide) rfl rfl (Nat.le_of_ble_eq_true rfl) dX12_search_113 lk_RX12_m243 (by decide) (fun _ => rfl) h (fun r3 σ4 h => ?_)
    refine V_rng (fun hR5 => ?_)
    have h := h hR5
    refine V_istore_n (L' := [(2, .int (gI r3)), (0, .ref (cxA X 69)), (1, .int (gI v1))]) rfl (by decide) rfl dX12_search_116 ?_
    exact V_sub [1, 2, 0] rfl h
  · have h := h.2 q2
    refine V_iconst dX12_search_43 ?_
    refine V_istore_n (L' := [(3, .int (gI 0)), (0, .ref (cxA X 69)), (1, .int (gI v1)), (2, .int (gI v2))]) rfl (by decide) rfl dX12_search_44 ?_
    exact V_sub [1, 2, 3, 0] rfl h
set_option maxHeartbeats 2000000 in
set_option maxRecDepth 20000 in
theorem rX12_search_45 {X : Cx} {v1 : Int} {v2 : Int} {v3 : Int} {σ : Sg} {Q : Int → Sg → Prop} (h : Rng σ → (inI v2) ∧ ((¬ v2 = 0 → (inI v2) ∧ ((¬ v2 = 3 → GX12_search_64 X v1 v2 v3 4 v3 σ Q) ∧ (v2 = 3 → GX12_search_64 X v1 v2 v3 3 v3 σ Q))) ∧ (v2 = 0 → GX12_search_64 X v1 v2 v3 1 v3 σ Q))) : GX12_search_45 X v1 v2 v3 σ Q := by
  unfold GX12_search_45
  refine V_rng (fun hR0 => ?_)
  have h := h hR0
  refine V_iload_n 3 rfl rfl dX12_search_45 ?_
  refine V_iload_n 2 rfl rfl dX12_search_46 ?_
  obtain ⟨g1, h⟩ := h
  refine V_if_ne (tgt := 54) dX12_search_47 (by decide) g1 (fun q2 => ?_) (fun q2 => ?_)
  · have h := h.1 q2
    refine V_iload_n 2 rfl rfl dX12_search_54 ?_
    refine V_iconst dX12_search_55 ?_
    obtain ⟨g3, h⟩ := h
    refine V_icmp_ne (tgt := 63) dX12_search_56 (by decide) g3 (by decide) (fun q4 => ?_) (fun q4 => ?_)
    · have h := h.1 q4
      refine V_iconst dX12_search_63 ?_
      exact h
    · have h := h.2 q4
      refine V_iconst dX12_search_59 ?_
      refine V_goto (tgt := 64) dX12_search_60 (by decide) ?_
      exact h
  · have h := h.2 q2
    refine V_iconst dX12_search_50 ?_
    refine V_goto (tgt := 64) dX12_search_51 (by decide) ?_
    exact h
set_option maxHeartbeats 2000000 in
set_option maxRecDepth 20000 in
theorem rX12_search_64 {X : Cx} {v1 : Int} {v2 : Int} {v3 : Int} {s0 : Int} {s1 : Int} {σ : Sg} {Q : Int → Sg → Prop} (h : Rng σ → (inI s1) ∧ (inI s0) ∧ ((s0 ≤ s1 → GX12_search_106 X v1 v2 v3 σ Q) ∧ (s1 < s0 → ((¬ (zand (zshr v1 v2) 1) = 1 → GX12_search_106 X v1 v2 v3 σ Q) ∧ ((zand (zshr v1 v2) 1) = 1 → KX12_allOf X v2 v3 σ (fun r5 σ6 => Rng σ6 → (0 ≤ v2 ∧ v2 < 15) ∧ KX12_offer X r5 (σ6 76 v2.toNat) ((8 * v2) + v3) 0 0 σ6 (fun r9 σ10 => Rng σ10 → GX12_search_45 X v1 v2 (v3 + 1) σ10 Q))))))) : GX12_search_64 X v1 v2 v3 s0 s1 σ Q := by
  unfold GX12_search_64
  refine V_rng (fun hR0 => ?_)
  have h := h hR0
  obtain ⟨g1, h⟩ := h
  obtain ⟨g2, h⟩ := h
  refine V_icmp_ge (tgt := 106) dX12_search_64 (by decide) g1 g2 (fun q3 => ?_) (fun q3 => ?_)
  · have h := h.1 q3
    exact h
  · have h := h.2 q3
    refine V_iload_n 1 rfl rfl dX12_search_67 ?_
    refine V_iload_n 2 rfl rfl dX12_search_68 ?_
    refine V_ishr dX12_search_69 ?_
    refine V_iconst dX12_search_70 ?_
    refine V_iand dX12_search_71 ?_
    refine V_iconst dX12_search_72 ?_
    refine V_icmp_ne (tgt := 106) dX12_search_73 (by decide) (inI_z _) (by decide) (fun q4 => ?_) (fun q4 => ?_)
    · have h := h.1 q4
      exact h
    · have h := h.2 q4
      refine V_aload_n 0 rfl rfl dX12_search_76 ?_
      refine V_aload_n 0 rfl rfl dX12_search_77 ?_
      refine V_iload_n 2 rfl rfl dX12_search_78 ?_
      refine V_iload_n 3 rfl rfl dX12_search_79 ?_
      refine V_cV (M' := mX12_allOf) (As := [.int (gI v2), .int (gI v3)]) (fun r => [.int (gI r), .ref (cxA X 69)]) ok_X12_allOf ok2_X12_allOf sh_69 rfl (by decide) rfl rfl (Nat.le_of_ble_eq_true rfl) dX12_search_80 lk_RX12_m214 (by decide) (fun _ => rfl) h (fun r5 σ6 h => ?_)
      refine V_rng (fun hR7 => ?_)
      have h := h hR7
      refine V_aload_n 0 rfl rfl dX12_search_83 ?_
      refine V_getR (f := 7) ci_X12 sh_69 rfl (by decide) (c1 := 76) rfl dX12_search_84 lk_RX12_f28 ?_
      refine V_iload_n 2 rfl rfl dX12_search_87 ?_
      obtain ⟨g8, h⟩ := h
      refine V_iald sh_76 (by decide) g8 dX12_search_88 ?_
      refine V_bipush (v := 8) (by decide) dX12_search_89 ?_
      refine V_iload_n 2 rfl rfl dX12_search_91 ?_
      refine V_imul dX12_search_92 ?_
      refine V_iload_n 3 rfl rfl dX12_search_93 ?_
      refine V_iadd dX12_search_94 ?_
      refine V_iconst dX12_search_95 ?_
      refine V_iconst dX12_search_96 ?_
      refine V_cV (M' := mX12_offer) (As := [.int (gI r5), .int (gI (σ6 76 v2.toNat)), .int (gI ((8 * v2) + v3)), .int (gI 0), .int (gI 0)]) (fun _ => []) ok_X12_offer ok2_X12_offer sh_69 rfl (by decide) rfl rfl (Nat.le_of_ble_eq_true rfl) dX12_search_97 lk_RX12_m239 (by decide) (fun _ => rfl) h (fun r9 σ10 h => ?_)
      refine V_rng (fun hR11 => ?_)
      have h := h hR11
      refine V_iinc (L' := [(3, .int (gI (v3 + 1))), (0, .ref (cxA X 69)), (1, .int (gI v1)), (2, .int (gI v2))]) 3 rfl (by decide) rfl dX12_search_100 ?_
      refine V_goto (tgt := 45) dX12_search_103 (by decide) ?_
      exact V_sub [1, 2, 3, 0] rfl h
set_option maxHeartbeats 2000000 in
set_option maxRecDepth 20000 in
theorem rX12_search_106 {X : Cx} {v1 : Int} {v2 : Int} {v3 : Int} {σ : Sg} {Q : Int → Sg → Prop} (h : Rng σ → GX12_search_38 X v1 (v2 + 1) σ Q) : GX12_search_106 X v1 v2 v3 σ Q := by
  unfold GX12_search_106
  refine V_rng (fun hR0 => ?_)
  have h := h hR0
  refine V_iinc (L' := [(2, .int (gI (v2 + 1))), (0, .ref (cxA X 69)), (1, .int (gI v1)), (3, .int (gI v3))]) 2 rfl (by decide) rfl dX12_search_106 ?_
  refine V_goto (tgt := 38) dX12_search_109 (by decide) ?_
  exact V_sub [1, 2, 0] rfl h
set_option maxHeartbeats 2000000 in
set_option maxRecDepth 20000 in
theorem rX12_search_117 {X : Cx} {v1 : Int} {v2 : Int} {σ : Sg} {Q : Int → Sg → Prop} (h : Rng σ → (inI v2) ∧ ((v2 = ((-1)) → Q 0 σ) ∧ (¬ v2 = ((-1)) → KX12_settle X v2 σ (fun r3 σ4 => Rng σ4 → GX12_search_129 X v1 v2 4 σ4 Q)))) : GX12_search_117 X v1 v2 σ Q := by
  unfold GX12_search_117
  refine V_rng (fun hR0 => ?_)
  have h := h hR0
  refine V_iload_n 2 rfl rfl dX12_search_117 ?_
  refine V_iconst dX12_search_118 ?_
  obtain ⟨g1, h⟩ := h
  refine V_icmp_eq (tgt := 321) dX12_search_119 (by decide) g1 (by decide) (fun q2 => ?_) (fun q2 => ?_)
  · have h := h.1 q2
    exact V_vret rfl dX12_search_321 h
  · have h := h.2 q2
    refine V_aload_n 0 rfl rfl dX12_search_122 ?_
    refine V_iload_n 2 rfl rfl dX12_search_123 ?_
    refine V_cV (M' := mX12_settle) (As := [.int (gI v2)]) (fun _ => []) ok_X12_settle ok2_X12_settle sh_69 rfl (by decide) rfl rfl (Nat.le_of_ble_eq_true rfl) dX12_search_124 lk_RX12_m246 (by decide) (fun _ => rfl) h (fun r3 σ4 h => ?_)
    refine V_rng (fun hR5 => ?_)
    have h := h hR5
    refine V_iconst dX12_search_127 ?_
    refine V_istore_n (L' := [(3, .int (gI 4)), (0, .ref (cxA X 69)), (1, .int (gI v1)), (2, .int (gI v2))]) rfl (by decide) rfl dX12_search_128 ?_
    exact V_sub [1, 2, 3, 0] rfl h
set_option maxHeartbeats 2000000 in
set_option maxRecDepth 20000 in
theorem rX12_search_129 {X : Cx} {v1 : Int} {v2 : Int} {v3 : Int} {σ : Sg} {Q : Int → Sg → Prop} (h : Rng σ → (inI v3) ∧ ((15 ≤ v3 → KX12_cheapestLeft X σ (fun r3 σ4 => Rng σ4 → GX12_search_117 X v1 r3 σ4 Q)) ∧ (v3 < 15 → ((¬ (zand (zshr v1 v3) 1) = 1 → GX12_search_182 X v1 v2 v3 σ Q) ∧ ((zand (zshr v1 v3) 1) = 1 → KX12_needs X v3 σ (fun r7 σ8 => Rng σ8 → (inI r7) ∧ ((¬ r7 = 1 → GX12_search_182 X v1 v2 v3 σ8 Q) ∧ (r7 = 1 → KX12_made X v3 v2 0 σ8 (fun r12 σ13 => Rng σ13 → (0 ≤ v2 ∧ v2 < 256) ∧ (0 ≤ v3 ∧ v3 < 15) ∧ KX12_offer X r12 ((σ13 84 v2.toNat) + (σ13 76 v3.toNat)) (8 * v3) v2 0 σ13 (fun r17 σ18 => Rng σ18 → GX12_search_182 X v1 v2 v3 σ18 Q)))))))))) : GX12_search_129 X v1 v2 v3 σ Q := by
  unfold GX12_search_129
  refine V_rng (fun hR0 => ?_)
  have h := h hR0
  refine V_iload_n 3 rfl rfl dX12_search_129 ?_
  refine V_bipush (v := 15) (by decide) dX12_search_130 ?_
  obtain ⟨g1, h⟩ := h
  refine V_icmp_ge (tgt := 313) dX12_search_132 (by decide) g1 (by decide) (fun q2 => ?_) (fun q2 => ?_)
  · have h := h.1 q2
    refine V_aload_n 0 rfl rfl dX12_search_313 ?_
    refine V_cV (M' := mX12_cheapestLeft) (As := []) (fun r => [.int (gI r)]) ok_X12_cheapestLeft ok2_X12_cheapestLeft sh_69 rfl (by decide) rfl rfl (Nat.le_of_ble_eq_true rfl) dX12_search_314 lk_RX12_m243 (by decide) (fun _ => rfl) h (fun r3 σ4 h => ?_)
    refine V_rng (fun hR5 => ?_)
    have h := h hR5
    refine V_istore_n (L' := [(2, .int (gI r3)), (0, .ref (cxA X 69)), (1, .int (gI v1)), (3, .int (gI v3))]) rfl (by decide) rfl dX12_search_317 ?_
    refine V_goto (tgt := 117) dX12_search_318 (by decide) ?_
    exact V_sub [1, 2, 0] rfl h
  · have h := h.2 q2
    refine V_iload_n 1 rfl rfl dX12_search_135 ?_
    refine V_iload_n 3 rfl rfl dX12_search_136 ?_
    refine V_ishr dX12_search_137 ?_
    refine V_iconst dX12_search_138 ?_
    refine V_iand dX12_search_139 ?_
    refine V_iconst dX12_search_140 ?_
    refine V_icmp_ne (tgt := 182) dX12_search_141 (by decide) (inI_z _) (by decide) (fun q6 => ?_) (fun q6 => ?_)
    · have h := h.1 q6
      exact h
    · have h := h.2 q6
      refine V_iload_n 3 rfl rfl dX12_search_144 ?_
      refine V_cS (M' := mX12_needs) (As := [.int (gI v3)]) (fun r => [.int (gI r)]) ok_X12_needs ok2_X12_needs rfl rfl (Nat.le_of_ble_eq_true rfl) dX12_search_145 lk_RX12_m198 (by decide) (fun _ => rfl) h (fun r7 σ8 h => ?_)
      refine V_rng (fun hR9 => ?_)
      have h := h hR9
      refine V_iconst dX12_search_148 ?_
      obtain ⟨g10, h⟩ := h
      refine V_icmp_ne (tgt := 182) dX12_search_149 (by decide) g10 (by decide) (fun q11 => ?_) (fun q11 => ?_)
      · have h := h.1 q11
        exact h
      · have h := h.2 q11
        refine V_aload_n 0 rfl rfl dX12_search_152 ?_
        refine V_aload_n 0 rfl rfl dX12_search_153 ?_
        refine V_iload_n 3 rfl rfl dX12_search_154 ?_
        refine V_iload_n 2 rfl rfl dX12_search_155 ?_
        refine V_iconst dX12_search_156 ?_
        refine V_cV (M' := mX12_made) (As := [.int (gI v3), .int (gI v2), .int (gI 0)]) (fun r => [.int (gI r), .ref (cxA X 69)]) ok_X12_made ok2_X12_made sh_69 rfl (by decide) rfl rfl (Nat.le_of_ble_eq_true rfl) dX12_search_157 lk_RX12_m218 (by decide) (fun _ => rfl) h (fun r12 σ13 h => ?_)
        refine V_rng (fun hR14 => ?_)
        have h := h hR14
        refine V_aload_n 0 rfl rfl dX12_search_160 ?_
        refine V_getR (f := 24) ci_X12 sh_69 rfl (by decide) (c1 := 84) rfl dX12_search_161 lk_RX12_f52 ?_
        refine V_iload_n 2 rfl rfl dX12_search_164 ?_
        obtain ⟨g15, h⟩ := h
        refine V_iald sh_84 (by decide) g15 dX12_search_165 ?_
        refine V_aload_n 0 rfl rfl dX12_search_166 ?_
        refine V_getR (f := 7) ci_X12 sh_69 rfl (by decide) (c1 := 76) rfl dX12_search_167 lk_RX12_f28 ?_
        refine V_iload_n 3 rfl rfl dX12_search_170 ?_
        obtain ⟨g16, h⟩ := h
        refine V_iald sh_76 (by decide) g16 dX12_search_171 ?_
        refine V_iadd dX12_search_172 ?_
        refine V_bipush (v := 8) (by decide) dX12_search_173 ?_
        refine V_iload_n 3 rfl rfl dX12_search_175 ?_
        refine V_imul dX12_search_176 ?_
        refine V_iload_n 2 rfl rfl dX12_search_177 ?_
        refine V_iconst dX12_search_178 ?_
        refine V_cV (M' := mX12_offer) (As := [.int (gI r12), .int (gI ((σ13 84 v2.toNat) + (σ13 76 v3.toNat))), .int (gI (8 * v3)), .int (gI v2), .int (gI 0)]) (fun _ => []) ok_X12_offer ok2_X12_offer sh_69 rfl (by decide) rfl rfl (Nat.le_of_ble_eq_true rfl) dX12_search_179 lk_RX12_m239 (by decide) (fun _ => rfl) h (fun r17 σ18 h => ?_)
        refine V_rng (fun hR19 => ?_)
        have h := h hR19
        exact h
set_option maxHeartbeats 2000000 in
set_option maxRecDepth 20000 in
theorem rX12_search_182 {X : Cx} {v1 : Int} {v2 : Int} {v3 : Int} {σ : Sg} {Q : Int → Sg → Prop} (h : Rng σ → GX12_search_185 X v1 v2 v3 0 σ Q) : GX12_search_182 X v1 v2 v3 σ Q := by
  unfold GX12_search_182
  refine V_rng (fun hR0 => ?_)
  have h := h hR0
  refine V_iconst dX12_search_182 ?_
  refine V_istore (L' := [(4, .int (gI 0)), (0, .ref (cxA X 69)), (1, .int (gI v1)), (2, .int (gI v2)), (3, .int (gI v3))]) (by decide) rfl dX12_search_183 ?_
  exact V_sub [1, 2, 3, 4, 0] rfl h
set_option maxHeartbeats 2000000 in
set_option maxRecDepth 20000 in
theorem rX12_search_185 {X : Cx} {v1 : Int} {v2 : Int} {v3 : Int} {v4 : Int} {σ : Sg} {Q : Int → Sg → Prop} (h : Rng σ → KX12_every X σ (fun r1 σ2 => Rng σ2 → (inI v4) ∧ (inI r1) ∧ ((r1 < v4 → GX12_search_307 X v1 v2 v3 v4 σ2 Q) ∧ (v4 ≤ r1 → KX12_needs X v3 σ2 (fun r7 σ8 => Rng σ8 → (inI r7) ∧ ((¬ r7 = 2 → GX12_search_307 X v1 v2 v3 v4 σ8 Q) ∧ (r7 = 2 → ((¬ (zand (zshr v1 v3) 1) = 1 → GX12_search_307 X v1 v2 v3 v4 σ8 Q) ∧ ((zand (zshr v1 v3) 1) = 1 → (0 ≤ v4 ∧ v4 < 256) ∧ (((σ8 90 v4.toNat) = 0 → GX12_search_301 X v1 v2 v3 v4 σ8 Q) ∧ (¬ (σ8 90 v4.toNat) = 0 → KX12_made X v3 v2 v4 σ8 (fun r15 σ16 => Rng σ16 → (0 ≤ v2 ∧ v2 < 256) ∧ (0 ≤ v4 ∧ v4 < 256) ∧ (0 ≤ v3 ∧ v3 < 15) ∧ KX12_offer X r15 (((σ16 84 v2.toNat) + (σ16 84 v4.toNat)) + (σ16 76 v3.toNat)) (8 * v3) v2 v4 σ16 (fun r21 σ22 => Rng σ22 → KX12_made X v3 v4 v2 σ22 (fun r24 σ25 => Rng σ25 → (0 ≤ v2 ∧ v2 < 256) ∧ (0 ≤ v4 ∧ v4 < 256) ∧ (0 ≤ v3 ∧ v3 < 15) ∧ KX12_offer X r24 (((σ25 84 v2.toNat) + (σ25 84 v4.toNat)) + (σ25 76 v3.toNat)) (8 * v3) v4 v2 σ25 (fun r30 σ31 => Rng σ31 → GX12_search_301 X v1 v2 v3 v4 σ31 Q))))))))))))))) : GX12_search_185 X v1 v2 v3 v4 σ Q := by
  unfold GX12_search_185
  refine V_rng (fun hR0 => ?_)
  have h := h hR0
  refine V_iload 4 rfl dX12_search_185 ?_
  refine V_aload_n 0 rfl rfl dX12_search_187 ?_
  refine V_cV (M' := mX12_every) (As := []) (fun r => [.int (gI r), .int (gI v4)]) ok_X12_every ok2_X12_every sh_69 rfl (by decide) rfl rfl (Nat.le_of_ble_eq_true rfl) dX12_search_188 lk_RX12_m204 (by decide) (fun _ => rfl) h (fun r1 σ2 h => ?_)
  refine V_rng (fun hR3 => ?_)
  have h := h hR3
  obtain ⟨g4, h⟩ := h
  obtain ⟨g5, h⟩ := h
  refine V_icmp_gt (tgt := 307) dX12_search_191 (by decide) g4 g5 (fun q6 => ?_) (fun q6 => ?_)
  · have h := h.1 q6
    exact h
  · have h := h.2 q6
    refine V_iload_n 3 rfl rfl dX12_search_194 ?_
    refine V_cS (M' := mX12_needs) (As := [.int (gI v3)]) (fun r => [.int (gI r)]) ok_X12_needs ok2_X12_needs rfl rfl (Nat.le_of_ble_eq_true rfl) dX12_search_195 lk_RX12_m198 (by decide) (fun _ => rfl) h (fun r7 σ8 h => ?_)
    refine V_rng (fun hR9 => ?_)
    have h := h hR9
    refine V_iconst dX12_search_198 ?_
    obtain ⟨g10, h⟩ := h
    refine V_icmp_ne (tgt := 307) dX12_search_199 (by decide) g10 (by decide) (fun q11 => ?_) (fun q11 => ?_)
    · have h := h.1 q11
      exact h
    · have h := h.2 q11
      refine V_iload_n 1 rfl rfl dX12_search_202 ?_
      refine V_iload_n 3 rfl rfl dX12_search_203 ?_
      refine V_ishr dX12_search_204 ?_
      refine V_iconst dX12_search_205 ?_
      refine V_iand dX12_search_206 ?_
      refine V_iconst dX12_search_207 ?_
      refine V_icmp_ne (tgt := 307) dX12_search_208 (by decide) (inI_z _) (by decide) (fun q12 => ?_) (fun q12 => ?_)
      · have h := h.1 q12
        exact h
      · have h := h.2 q12
        refine V_aload_n 0 rfl rfl dX12_search_211 ?_
        refine V_getR (f := 30) ci_X12 sh_69 rfl (by decide) (c1 := 90) rfl dX12_search_212 lk_RX12_f70 ?_
        refine V_iload 4 rfl dX12_search_215 ?_
        obtain ⟨g13, h⟩ := h
        refine V_zald sh_90 (by decide) g13 dX12_search_217 ?_
        refine V_if_eq (tgt := 301) dX12_search_218 (by decide) (show inI (σ8 90 v4.toNat) from (inI_sh hR9 sh_90 (by decide))) (fun q14 => ?_) (fun q14 => ?_)
        · have h := h.1 q14
          exact h
        · have h := h.2 q14
          refine V_aload_n 0 rfl rfl dX12_search_221 ?_
          refine V_aload_n 0 rfl rfl dX12_search_222 ?_
          refine V_iload_n 3 rfl rfl dX12_search_223 ?_
          refine V_iload_n 2 rfl rfl dX12_search_224 ?_
          refine V_iload 4 rfl dX12_search_225 ?_
          refine V_cV (M' := mX12_made) (As := [.int (gI v3), .int (gI v2), .int (gI v4)]) (fun r => [.int (gI r), .ref (cxA X 69)]) ok_X12_made ok2_X12_made sh_69 rfl (by decide) rfl rfl (Nat.le_of_ble_eq_true rfl) dX12_search_227 lk_RX12_m218 (by decide) (fun _ => rfl) h (fun r15 σ16 h => ?_)
          refine V_rng (fun hR17 => ?_)
          have h := h hR17
          refine V_aload_n 0 rfl rfl dX12_search_230 ?_
          refine V_getR (f := 24) ci_X12 sh_69 rfl (by decide) (c1 := 84) rfl dX12_search_231 lk_RX12_f52 ?_
          refine V_iload_n 2 rfl rfl dX12_search_234 ?_
          obtain ⟨g18, h⟩ := h
          refine V_iald sh_84 (by decide) g18 dX12_search_235 ?_
          refine V_aload_n 0 rfl rfl dX12_search_236 ?_
          refine V_getR (f := 24) ci_X12 sh_69 rfl (by decide) (c1 := 84) rfl dX12_search_237 lk_RX12_f52 ?_
          refine V_iload 4 rfl dX12_search_240 ?_
          obtain ⟨g19, h⟩ := h
          refine V_iald sh_84 (by decide) g19 dX12_search_242 ?_
          refine V_iadd dX12_search_243 ?_
          refine V_aload_n 0 rfl rfl dX12_search_244 ?_
          refine V_getR (f := 7) ci_X12 sh_69 rfl (by decide) (c1 := 76) rfl dX12_search_245 lk_RX12_f28 ?_
          refine V_iload_n 3 rfl rfl dX12_search_248 ?_
          obtain ⟨g20, h⟩ := h
          refine V_iald sh_76 (by decide) g20 dX12_search_249 ?_
          refine V_iadd dX12_search_250 ?_
          refine V_bipush (v := 8) (by decide) dX12_search_251 ?_
          refine V_iload_n 3 rfl rfl dX12_search_253 ?_
          refine V_imul dX12_search_254 ?_
          refine V_iload_n 2 rfl rfl dX12_search_255 ?_
          refine V_iload 4 rfl dX12_search_256 ?_
          refine V_cV (M' := mX12_offer) (As := [.int (gI r15), .int (gI (((σ16 84 v2.toNat) + (σ16 84 v4.toNat)) + (σ16 76 v3.toNat))), .int (gI (8 * v3)), .int (gI v2), .int (gI v4)]) (fun _ => []) ok_X12_offer ok2_X12_offer sh_69 rfl (by decide) rfl rfl (Nat.le_of_ble_eq_true rfl) dX12_search_258 lk_RX12_m239 (by decide) (fun _ => rfl) h (fun r21 σ22 h => ?_)
          refine V_rng (fun hR23 => ?_)
          have h := h hR23
          refine V_aload_n 0 rfl rfl dX12_search_261 ?_
          refine V_aload_n 0 rfl rfl dX12_search_262 ?_
          refine V_iload_n 3 rfl rfl dX12_search_263 ?_
          refine V_iload 4 rfl dX12_search_264 ?_
          refine V_iload_n 2 rfl rfl dX12_search_266 ?_
          refine V_cV (M' := mX12_made) (As := [.int (gI v3), .int (gI v4), .int (gI v2)]) (fun r => [.int (gI r), .ref (cxA X 69)]) ok_X12_made ok2_X12_made sh_69 rfl (by decide) rfl rfl (Nat.le_of_ble_eq_true rfl) dX12_search_267 lk_RX12_m218 (by decide) (fun _ => rfl) h (fun r24 σ25 h => ?_)
          refine V_rng (fun hR26 => ?_)
          have h := h hR26
          refine V_aload_n 0 rfl rfl dX12_search_270 ?_
          refine V_getR (f := 24) ci_X12 sh_69 rfl (by decide) (c1 := 84) rfl dX12_search_271 lk_RX12_f52 ?_
          refine V_iload_n 2 rfl rfl dX12_search_274 ?_
          obtain ⟨g27, h⟩ := h
          refine V_iald sh_84 (by decide) g27 dX12_search_275 ?_
          refine V_aload_n 0 rfl rfl dX12_search_276 ?_
          refine V_getR (f := 24) ci_X12 sh_69 rfl (by decide) (c1 := 84) rfl dX12_search_277 lk_RX12_f52 ?_
          refine V_iload 4 rfl dX12_search_280 ?_
          obtain ⟨g28, h⟩ := h
          refine V_iald sh_84 (by decide) g28 dX12_search_282 ?_
          refine V_iadd dX12_search_283 ?_
          refine V_aload_n 0 rfl rfl dX12_search_284 ?_
          refine V_getR (f := 7) ci_X12 sh_69 rfl (by decide) (c1 := 76) rfl dX12_search_285 lk_RX12_f28 ?_
          refine V_iload_n 3 rfl rfl dX12_search_288 ?_
          obtain ⟨g29, h⟩ := h
          refine V_iald sh_76 (by decide) g29 dX12_search_289 ?_
          refine V_iadd dX12_search_290 ?_
          refine V_bipush (v := 8) (by decide) dX12_search_291 ?_
          refine V_iload_n 3 rfl rfl dX12_search_293 ?_
          refine V_imul dX12_search_294 ?_
          refine V_iload 4 rfl dX12_search_295 ?_
          refine V_iload_n 2 rfl rfl dX12_search_297 ?_
          refine V_cV (M' := mX12_offer) (As := [.int (gI r24), .int (gI (((σ25 84 v2.toNat) + (σ25 84 v4.toNat)) + (σ25 76 v3.toNat))), .int (gI (8 * v3)), .int (gI v4), .int (gI v2)]) (fun _ => []) ok_X12_offer ok2_X12_offer sh_69 rfl (by decide) rfl rfl (Nat.le_of_ble_eq_true rfl) dX12_search_298 lk_RX12_m239 (by decide) (fun _ => rfl) h (fun r30 σ31 h => ?_)
          refine V_rng (fun hR32 => ?_)
          have h := h hR32
          exact h
set_option maxHeartbeats 2000000 in
set_option maxRecDepth 20000 in
theorem rX12_search_301 {X : Cx} {v1 : Int} {v2 : Int} {v3 : Int} {v4 : Int} {σ : Sg} {Q : Int → Sg → Prop} (h : Rng σ → GX12_search_185 X v1 v2 v3 (v4 + 1) σ Q) : GX12_search_301 X v1 v2 v3 v4 σ Q := by
  unfold GX12_search_301
  refine V_rng (fun hR0 => ?_)
  have h := h hR0
  refine V_iinc (L' := [(4, .int (gI (v4 + 1))), (0, .ref (cxA X 69)), (1, .int (gI v1)), (2, .int (gI v2)), (3, .int (gI v3))]) 4 rfl (by decide) rfl dX12_search_301 ?_
  refine V_goto (tgt := 185) dX12_search_304 (by decide) ?_
  exact V_sub [1, 2, 3, 4, 0] rfl h
set_option maxHeartbeats 2000000 in
set_option maxRecDepth 20000 in
theorem rX12_search_307 {X : Cx} {v1 : Int} {v2 : Int} {v3 : Int} {v4 : Int} {σ : Sg} {Q : Int → Sg → Prop} (h : Rng σ → GX12_search_129 X v1 v2 (v3 + 1) σ Q) : GX12_search_307 X v1 v2 v3 v4 σ Q := by
  unfold GX12_search_307
  refine V_rng (fun hR0 => ?_)
  have h := h hR0
  refine V_iinc (L' := [(3, .int (gI (v3 + 1))), (0, .ref (cxA X 69)), (1, .int (gI v1)), (2, .int (gI v2)), (4, .int (gI v4))]) 3 rfl (by decide) rfl dX12_search_307 ?_
  refine V_goto (tgt := 129) dX12_search_310 (by decide) ?_
  exact V_sub [1, 2, 3, 0] rfl h
theorem eX12_search {X : Cx} {v1 : Int} {σ : Sg} {Q : Int → Sg → Prop} (h : GX12_search_0 X v1 σ Q) : KX12_search X v1 σ Q := V_enter (by decide) (Nat.le_of_ble_eq_true rfl) rfl h
def GX12_areWords_0 (X : Cx) (v0 : Int) (σ : Sg) (Q : Int → Sg → Prop) : Prop := VV X mX12_areWords 0 [(0, .int (gI v0))] [] σ Q
set_option maxHeartbeats 2000000 in
set_option maxRecDepth 20000 in
theorem rX12_areWords_0 {X : Cx} {v0 : Int} {σ : Sg} {Q : Int → Sg → Prop} (h : Rng σ → KX12_in X v0 0 32767 σ (fun r1 σ2 => Rng σ2 → (r1 = 0 ∨ r1 = 1) ∧ Q r1 σ2)) : GX12_areWords_0 X v0 σ Q := by
  unfold GX12_areWords_0
  refine V_rng (fun hR0 => ?_)
  have h := h hR0
  refine V_iload_n 0 rfl rfl dX12_areWords_0 ?_
  refine V_iconst dX12_areWords_1 ?_
  refine V_sipush (v := 32767) (by decide) dX12_areWords_2 ?_
  refine V_cS (M' := mX12_in) (As := [.int (gI v0), .int (gI 0), .int (gI 32767)]) (fun r => [.int (gI r)]) ok_X12_in ok2_X12_in rfl rfl (Nat.le_of_ble_eq_true rfl) dX12_areWords_5 lk_RX12_m102 (by decide) (fun _ => rfl) h (fun r1 σ2 h => ?_)
  refine V_rng (fun hR3 => ?_)
  have h := h hR3
  obtain ⟨g4, h⟩ := h
  exact V_iret rfl (fun _ q => by cases q) (nar_Z g4).1 dX12_areWords_8 h
theorem eX12_areWords {X : Cx} {v0 : Int} {σ : Sg} {Q : Int → Sg → Prop} (h : GX12_areWords_0 X v0 σ Q) : KX12_areWords X v0 σ Q := V_enter (by decide) (Nat.le_of_ble_eq_true rfl) rfl h
def GX12_cheapest_0 (X : Cx) (v1 : Int) (v2 : Int) (v3 : Int) (σ : Sg) (Q : Int → Sg → Prop) : Prop := VV X mX12_cheapest 0 [(0, .ref (cxA X 69)), (1, .int (gI v1)), (2, .int (gI v2)), (3, .int (gI v3))] [] σ Q
def GX12_cheapest_86 (X : Cx) (v1 : Int) (v2 : Int) (v3 : Int) (v4 : Int) (v5 : Int) (σ : Sg) (Q : Int → Sg → Prop) : Prop := VV X mX12_cheapest 86 [(0, .ref (cxA X 69)), (1, .int (gI v1)), (2, .int (gI v2)), (3, .int (gI v3)), (4, .int (gI v4)), (5, .int (gI v5))] [] σ Q
def GX12_cheapest_113 (X : Cx) (v1 : Int) (v2 : Int) (v3 : Int) (v4 : Int) (v5 : Int) (s0 : Int) (σ : Sg) (Q : Int → Sg → Prop) : Prop := VV X mX12_cheapest 113 [(0, .ref (cxA X 69)), (1, .int (gI v1)), (2, .int (gI v2)), (3, .int (gI v3)), (4, .int (gI v4)), (5, .int (gI v5))] [.int (gI s0)] σ Q
def GX12_cheapest_144 (X : Cx) (v1 : Int) (v2 : Int) (v3 : Int) (v4 : Int) (v5 : Int) (v6 : Int) (s0 : Int) (σ : Sg) (Q : Int → Sg → Prop) : Prop := VV X mX12_cheapest 144 [(0, .ref (cxA X 69)), (1, .int (gI v1)), (2, .int (gI v2)), (3, .int (gI v3)), (4, .int (gI v4)), (5, .int (gI v5)), (6, .int (gI v6))] [.int (gI s0)] σ Q
def GX12_cheapest_168 (X : Cx) (v1 : Int) (v2 : Int) (v3 : Int) (v4 : Int) (v5 : Int) (v6 : Int) (s0 : Int) (σ : Sg) (Q : Int → Sg → Prop) : Prop := VV X mX12_cheapest 168 [(0, .ref (cxA X 69)), (1, .int (gI v1)), (2, .int (gI v2)), (3, .int (gI v3)), (4, .int (gI v4)), (5, .int (gI v5)), (6, .int (gI v6))] [.int (gI s0)] σ Q
set_option maxHeartbeats 2000000 in
set_option maxRecDepth 20000 in
theorem rX12_cheapest_0 {X : Cx} {v1 : Int} {v2 : Int} {v3 : Int} {σ : Sg} {Q : Int → Sg → Prop} (h : Rng σ → KX12_every X σ (fun r1 σ2 => Rng σ2 → KX12_in X v1 0 r1 σ2 (fun r4 σ5 => Rng σ5 → (inI r4) ∧ ((r4 = 0 → Q ((-3)) σ5) ∧ (¬ r4 = 0 → KX12_areWords X v2 σ5 (fun r9 σ10 => Rng σ10 → (inI r9) ∧ ((r9 = 0 → Q ((-3)) σ10) ∧ (¬ r9 = 0 → (inI v3) ∧ ((((-2)) ≤ v3 → KX12_search X v2 σ10 (fun r16 σ17 => Rng σ17 → (0 ≤ v1 ∧ v1 < 256) ∧ (((σ17 84 v1.toNat) = ((-1)) → Q ((-1)) σ17) ∧ (¬ (σ17 84 v1.toNat) = ((-1)) → (0 ≤ v1 ∧ v1 < 256) ∧ (inI v3) ∧ ((v3 < (σ17 88 v1.toNat) → (inI v3) ∧ ((0 ≤ v3 → GX12_cheapest_86 X v1 v2 v3 v1 v3 σ17 Q) ∧ (v3 < 0 → (inI v3) ∧ ((¬ v3 = ((-1)) → (0 ≤ v1 ∧ v1 < 256) ∧ Q (σ17 88 v1.toNat) σ17) ∧ (v3 = ((-1)) → (0 ≤ v1 ∧ v1 < 256) ∧ Q (σ17 84 v1.toNat) σ17))))) ∧ ((σ17 88 v1.toNat) ≤ v3 → Q ((-1)) σ17)))))) ∧ (v3 < ((-2)) → Q ((-3)) σ10)))))))))) : GX12_cheapest_0 X v1 v2 v3 σ Q := by
  unfold GX12_cheapest_0
  refine V_rng (fun hR0 => ?_)
  have h := h hR0
  refine V_iload_n 1 rfl rfl dX12_cheapest_0 ?_
  refine V_iconst dX12_cheapest_1 ?_
  refine V_aload_n 0 rfl rfl dX12_cheapest_2 ?_
  refine V_cV (M' := mX12_every) (As := []) (fun r => [.int (gI r), .int (gI 0), .int (gI v1)]) ok_X12_every ok2_X12_every sh_69 rfl (by decide) rfl rfl (Nat.le_of_ble_eq_true rfl) dX12_cheapest_3 lk_RX12_m204 (by decide) (fun _ => rfl) h (fun r1 σ2 h => ?_)
  refine V_rng (fun hR3 => ?_)
  have h := h hR3
  refine V_cS (M' := mX12_in) (As := [.int (gI v1), .int (gI 0), .int (gI r1)]) (fun r => [.int (gI r)]) ok_X12_in ok2_X12_in rfl rfl (Nat.le_of_ble_eq_true rfl) dX12_cheapest_6 lk_RX12_m102 (by decide) (fun _ => rfl) h (fun r4 σ5 h => ?_)
  refine V_rng (fun hR6 => ?_)
  have h := h hR6
  obtain ⟨g7, h⟩ := h
  refine V_if_eq (tgt := 25) dX12_cheapest_9 (by decide) g7 (fun q8 => ?_) (fun q8 => ?_)
  · have h := h.1 q8
    refine V_bipush (v := -3) (by decide) dX12_cheapest_25 ?_
    exact V_iret rfl (fun _ q => by cases q) (vp_nar_int _) dX12_cheapest_27 h
  · have h := h.2 q8
    refine V_iload_n 2 rfl rfl dX12_cheapest_12 ?_
    refine V_cS (M' := mX12_areWords) (As := [.int (gI v2)]) (fun r => [.int (gI r)]) ok_X12_areWords ok2_X12_areWords rfl rfl (Nat.le_of_ble_eq_true rfl) dX12_cheapest_13 lk_RX12_m249 (by decide) (fun _ => rfl) h (fun r9 σ10 h => ?_)
    refine V_rng (fun hR11 => ?_)
    have h := h hR11
    obtain ⟨g12, h⟩ := h
    refine V_if_eq (tgt := 25) dX12_cheapest_16 (by decide) g12 (fun q13 => ?_) (fun q13 => ?_)
    · have h := h.1 q13
      refine V_bipush (v := -3) (by decide) dX12_cheapest_25 ?_
      exact V_iret rfl (fun _ q => by cases q) (vp_nar_int _) dX12_cheapest_27 h
    · have h := h.2 q13
      refine V_iload_n 3 rfl rfl dX12_cheapest_19 ?_
      refine V_bipush (v := -2) (by decide) dX12_cheapest_20 ?_
      obtain ⟨g14, h⟩ := h
      refine V_icmp_ge (tgt := 28) dX12_cheapest_22 (by decide) g14 (by decide) (fun q15 => ?_) (fun q15 => ?_)
      · have h := h.1 q15
        refine V_aload_n 0 rfl rfl dX12_cheapest_28 ?_
        refine V_iload_n 2 rfl rfl dX12_cheapest_29 ?_
        refine V_cV (M' := mX12_search) (As := [.int (gI v2)]) (fun _ => []) ok_X12_search ok2_X12_search sh_69 rfl (by decide) rfl rfl (Nat.le_of_ble_eq_true rfl) dX12_cheapest_30 lk_RX12_m252 (by decide) (fun _ => rfl) h (fun r16 σ17 h => ?_)
        refine V_rng (fun hR18 => ?_)
        have h := h hR18
        refine V_aload_n 0 rfl rfl dX12_cheapest_33 ?_
        refine V_getR (f := 24) ci_X12 sh_69 rfl (by decide) (c1 := 84) rfl dX12_cheapest_34 lk_RX12_f52 ?_
        refine V_iload_n 1 rfl rfl dX12_cheapest_37 ?_
        obtain ⟨g19, h⟩ := h
        refine V_iald sh_84 (by decide) g19 dX12_cheapest_38 ?_
        refine V_iconst dX12_cheapest_39 ?_
        refine V_icmp_eq (tgt := 53) dX12_cheapest_40 (by decide) (show inI (σ17 84 v1.toNat) from (inI_sh hR18 sh_84 (by decide))) (by decide) (fun q20 => ?_) (fun q20 => ?_)
        · have h := h.1 q20
          refine V_iconst dX12_cheapest_53 ?_
          exact V_iret rfl (fun _ q => by cases q) (vp_nar_int _) dX12_cheapest_54 h
        · have h := h.2 q20
          refine V_iload_n 3 rfl rfl dX12_cheapest_43 ?_
          refine V_aload_n 0 rfl rfl dX12_cheapest_44 ?_
          refine V_getR (f := 28) ci_X12 sh_69 rfl (by decide) (c1 := 88) rfl dX12_cheapest_45 lk_RX12_f64 ?_
          refine V_iload_n 1 rfl rfl dX12_cheapest_48 ?_
          obtain ⟨g21, h⟩ := h
          refine V_iald sh_88 (by decide) g21 dX12_cheapest_49 ?_
          obtain ⟨g22, h⟩ := h
          refine V_icmp_lt (tgt := 55) dX12_cheapest_50 (by decide) g22 (show inI (σ17 88 v1.toNat) from (inI_sh hR18 sh_88 (by decide))) (fun q23 => ?_) (fun q23 => ?_)
          · have h := h.1 q23
            refine V_iload_n 3 rfl rfl dX12_cheapest_55 ?_
            obtain ⟨g24, h⟩ := h
            refine V_if_ge (tgt := 80) dX12_cheapest_56 (by decide) g24 (fun q25 => ?_) (fun q25 => ?_)
            · have h := h.1 q25
              refine V_iload_n 1 rfl rfl dX12_cheapest_80 ?_
              refine V_istore (L' := [(4, .int (gI v1)), (0, .ref (cxA X 69)), (1, .int (gI v1)), (2, .int (gI v2)), (3, .int (gI v3))]) (by decide) rfl dX12_cheapest_81 ?_
              refine V_iload_n 4 rfl rfl dX12_cheapest_83 ?_
              refine V_istore (L' := [(5, .int (gI v3)), (4, .int (gI v1)), (0, .ref (cxA X 69)), (1, .int (gI v1)), (2, .int (gI v2)), (3, .int (gI v3))]) (by decide) rfl dX12_cheapest_84 ?_
              exact V_sub [2, 3, 4, 5, 1, 0] rfl h
            · have h := h.2 q25
              refine V_iload_n 3 rfl rfl dX12_cheapest_59 ?_
              refine V_iconst dX12_cheapest_60 ?_
              obtain ⟨g26, h⟩ := h
              refine V_icmp_ne (tgt := 73) dX12_cheapest_61 (by decide) g26 (by decide) (fun q27 => ?_) (fun q27 => ?_)
              · have h := h.1 q27
                refine V_aload_n 0 rfl rfl dX12_cheapest_73 ?_
                refine V_getR (f := 28) ci_X12 sh_69 rfl (by decide) (c1 := 88) rfl dX12_cheapest_74 lk_RX12_f64 ?_
                refine V_iload_n 1 rfl rfl dX12_cheapest_77 ?_
                obtain ⟨g28, h⟩ := h
                refine V_iald sh_88 (by decide) g28 dX12_cheapest_78 ?_
                exact V_iret rfl (fun _ q => by cases q) (vp_nar_int _) dX12_cheapest_79 h
              · have h := h.2 q27
                refine V_aload_n 0 rfl rfl dX12_cheapest_64 ?_
                refine V_getR (f := 24) ci_X12 sh_69 rfl (by decide) (c1 := 84) rfl dX12_cheapest_65 lk_RX12_f52 ?_
                refine V_iload_n 1 rfl rfl dX12_cheapest_68 ?_
                obtain ⟨g29, h⟩ := h
                refine V_iald sh_84 (by decide) g29 dX12_cheapest_69 ?_
                refine V_goto (tgt := 79) dX12_cheapest_70 (by decide) ?_
                exact V_iret rfl (fun _ q => by cases q) (vp_nar_int _) dX12_cheapest_79 h
          · have h := h.2 q23
            refine V_iconst dX12_cheapest_53 ?_
            exact V_iret rfl (fun _ q => by cases q) (vp_nar_int _) dX12_cheapest_54 h
      · have h := h.2 q15
        refine V_bipush (v := -3) (by decide) dX12_cheapest_25 ?_
        exact V_iret rfl (fun _ q => by cases q) (vp_nar_int _) dX12_cheapest_27 h
set_option maxHeartbeats 2000000 in
set_option maxRecDepth 20000 in
theorem rX12_cheapest_86 {X : Cx} {v1 : Int} {v2 : Int} {v3 : Int} {v4 : Int} {v5 : Int} {σ : Sg} {Q : Int → Sg → Prop} (h : Rng σ → (inI v5) ∧ ((v5 ≤ 0 → (0 ≤ v4 ∧ v4 < 256) ∧ Q (σ 85 v4.toNat) σ) ∧ (0 < v5 → (0 ≤ v4 ∧ v4 < 256) ∧ (0 ≤ σ 86 v4.toNat ∧ σ 86 v4.toNat < 256) ∧ (inI v5) ∧ (((σ 88 ((σ 86 v4.toNat).toNat)) < v5 → GX12_cheapest_113 X v1 v2 v3 v4 v5 0 σ Q) ∧ (v5 ≤ (σ 88 ((σ 86 v4.toNat).toNat)) → GX12_cheapest_113 X v1 v2 v3 v4 v5 1 σ Q))))) : GX12_cheapest_86 X v1 v2 v3 v4 v5 σ Q := by
  unfold GX12_cheapest_86
  refine V_rng (fun hR0 => ?_)
  have h := h hR0
  refine V_iload 5 rfl dX12_cheapest_86 ?_
  obtain ⟨g1, h⟩ := h
  refine V_if_le (tgt := 173) dX12_cheapest_88 (by decide) g1 (fun q2 => ?_) (fun q2 => ?_)
  · have h := h.1 q2
    refine V_aload_n 0 rfl rfl dX12_cheapest_173 ?_
    refine V_getR (f := 25) ci_X12 sh_69 rfl (by decide) (c1 := 85) rfl dX12_cheapest_174 lk_RX12_f55 ?_
    refine V_iload 4 rfl dX12_cheapest_177 ?_
    obtain ⟨g3, h⟩ := h
    refine V_iald sh_85 (by decide) g3 dX12_cheapest_179 ?_
    exact V_iret rfl (fun _ q => by cases q) (vp_nar_int _) dX12_cheapest_180 h
  · have h := h.2 q2
    refine V_iload 5 rfl dX12_cheapest_91 ?_
    refine V_aload_n 0 rfl rfl dX12_cheapest_93 ?_
    refine V_getR (f := 28) ci_X12 sh_69 rfl (by decide) (c1 := 88) rfl dX12_cheapest_94 lk_RX12_f64 ?_
    refine V_aload_n 0 rfl rfl dX12_cheapest_97 ?_
    refine V_getR (f := 26) ci_X12 sh_69 rfl (by decide) (c1 := 86) rfl dX12_cheapest_98 lk_RX12_f58 ?_
    refine V_iload 4 rfl dX12_cheapest_101 ?_
    obtain ⟨g4, h⟩ := h
    refine V_iald sh_86 (by decide) g4 dX12_cheapest_103 ?_
    obtain ⟨g5, h⟩ := h
    refine V_iald sh_88 (by decide) g5 dX12_cheapest_104 ?_
    obtain ⟨g6, h⟩ := h
    refine V_icmp_gt (tgt := 112) dX12_cheapest_105 (by decide) g6 (show inI (σ 88 ((σ 86 v4.toNat).toNat)) from (inI_sh hR0 sh_88 (by decide))) (fun q7 => ?_) (fun q7 => ?_)
    · have h := h.1 q7
      refine V_iconst dX12_cheapest_112 ?_
      exact h
    · have h := h.2 q7
      refine V_iconst dX12_cheapest_108 ?_
      refine V_goto (tgt := 113) dX12_cheapest_109 (by decide) ?_
      exact h
set_option maxHeartbeats 2000000 in
set_option maxRecDepth 20000 in
theorem rX12_cheapest_113 {X : Cx} {v1 : Int} {v2 : Int} {v3 : Int} {v4 : Int} {v5 : Int} {s0 : Int} {σ : Sg} {Q : Int → Sg → Prop} (h : Rng σ → (inI s0) ∧ ((s0 = 0 → (0 ≤ v4 ∧ v4 < 256) ∧ (0 ≤ σ 86 v4.toNat ∧ σ 86 v4.toNat < 256) ∧ GX12_cheapest_144 X v1 v2 v3 v4 v5 s0 ((v5 - 1) - (σ 88 ((σ 86 v4.toNat).toNat))) σ Q) ∧ (¬ s0 = 0 → GX12_cheapest_144 X v1 v2 v3 v4 v5 s0 (v5 - 1) σ Q))) : GX12_cheapest_113 X v1 v2 v3 v4 v5 s0 σ Q := by
  unfold GX12_cheapest_113
  refine V_rng (fun hR0 => ?_)
  have h := h hR0
  refine V_istore (L' := [(6, .int (gI s0)), (0, .ref (cxA X 69)), (1, .int (gI v1)), (2, .int (gI v2)), (3, .int (gI v3)), (4, .int (gI v4)), (5, .int (gI v5))]) (by decide) rfl dX12_cheapest_113 ?_
  refine V_iload 0 rfl dX12_cheapest_115 ?_
  obtain ⟨g1, h⟩ := h
  refine V_if_eq (tgt := 127) dX12_cheapest_117 (by decide) g1 (fun q2 => ?_) (fun q2 => ?_)
  · have h := h.1 q2
    refine V_iload 6 rfl dX12_cheapest_127 ?_
    refine V_iconst dX12_cheapest_129 ?_
    refine V_isub dX12_cheapest_130 ?_
    refine V_aload_n 1 rfl rfl dX12_cheapest_131 ?_
    refine V_getR (f := 28) ci_X12 sh_69 rfl (by decide) (c1 := 88) rfl dX12_cheapest_132 lk_RX12_f64 ?_
    refine V_aload_n 1 rfl rfl dX12_cheapest_135 ?_
    refine V_getR (f := 26) ci_X12 sh_69 rfl (by decide) (c1 := 86) rfl dX12_cheapest_136 lk_RX12_f58 ?_
    refine V_iload 5 rfl dX12_cheapest_139 ?_
    obtain ⟨g3, h⟩ := h
    refine V_iald sh_86 (by decide) g3 dX12_cheapest_141 ?_
    obtain ⟨g4, h⟩ := h
    refine V_iald sh_88 (by decide) g4 dX12_cheapest_142 ?_
    refine V_isub dX12_cheapest_143 ?_
    exact V_sub [1, 2, 3, 4, 5, 6, 0] rfl h
  · have h := h.2 q2
    refine V_iload 6 rfl dX12_cheapest_120 ?_
    refine V_iconst dX12_cheapest_122 ?_
    refine V_isub dX12_cheapest_123 ?_
    refine V_goto (tgt := 144) dX12_cheapest_124 (by decide) ?_
    exact V_sub [1, 2, 3, 4, 5, 6, 0] rfl h
set_option maxHeartbeats 2000000 in
set_option maxRecDepth 20000 in
theorem rX12_cheapest_144 {X : Cx} {v1 : Int} {v2 : Int} {v3 : Int} {v4 : Int} {v5 : Int} {v6 : Int} {s0 : Int} {σ : Sg} {Q : Int → Sg → Prop} (h : Rng σ → (inI v6) ∧ ((v6 = 0 → (0 ≤ v4 ∧ v4 < 256) ∧ GX12_cheapest_168 X v1 v2 v3 v4 s0 v6 (σ 87 v4.toNat) σ Q) ∧ (¬ v6 = 0 → (0 ≤ v4 ∧ v4 < 256) ∧ GX12_cheapest_168 X v1 v2 v3 v4 s0 v6 (σ 86 v4.toNat) σ Q))) : GX12_cheapest_144 X v1 v2 v3 v4 v5 v6 s0 σ Q := by
  unfold GX12_cheapest_144
  refine V_rng (fun hR0 => ?_)
  have h := h hR0
  refine V_istore (L' := [(5, .int (gI s0)), (0, .ref (cxA X 69)), (1, .int (gI v1)), (2, .int (gI v2)), (3, .int (gI v3)), (4, .int (gI v4)), (6, .int (gI v6))]) (by decide) rfl dX12_cheapest_144 ?_
  refine V_iload 6 rfl dX12_cheapest_146 ?_
  obtain ⟨g1, h⟩ := h
  refine V_if_eq (tgt := 161) dX12_cheapest_148 (by decide) g1 (fun q2 => ?_) (fun q2 => ?_)
  · have h := h.1 q2
    refine V_aload_n 1 rfl rfl dX12_cheapest_161 ?_
    refine V_getR (f := 27) ci_X12 sh_69 rfl (by decide) (c1 := 87) rfl dX12_cheapest_162 lk_RX12_f61 ?_
    refine V_iload 5 rfl dX12_cheapest_165 ?_
    obtain ⟨g3, h⟩ := h
    refine V_iald sh_87 (by decide) g3 dX12_cheapest_167 ?_
    exact V_sub [1, 2, 3, 4, 5, 0, 6] rfl h
  · have h := h.2 q2
    refine V_aload_n 1 rfl rfl dX12_cheapest_151 ?_
    refine V_getR (f := 26) ci_X12 sh_69 rfl (by decide) (c1 := 86) rfl dX12_cheapest_152 lk_RX12_f58 ?_
    refine V_iload 5 rfl dX12_cheapest_155 ?_
    obtain ⟨g4, h⟩ := h
    refine V_iald sh_86 (by decide) g4 dX12_cheapest_157 ?_
    refine V_goto (tgt := 168) dX12_cheapest_158 (by decide) ?_
    exact V_sub [1, 2, 3, 4, 5, 0, 6] rfl h
set_option maxHeartbeats 2000000 in
set_option maxRecDepth 20000 in
theorem rX12_cheapest_168 {X : Cx} {v1 : Int} {v2 : Int} {v3 : Int} {v4 : Int} {v5 : Int} {v6 : Int} {s0 : Int} {σ : Sg} {Q : Int → Sg → Prop} (h : Rng σ → GX12_cheapest_86 X v1 v2 v3 s0 v5 σ Q) : GX12_cheapest_168 X v1 v2 v3 v4 v5 v6 s0 σ Q := by
  unfold GX12_cheapest_168
  refine V_rng (fun hR0 => ?_)
  have h := h hR0
  refine V_istore (L' := [(4, .int (gI s0)), (0, .ref (cxA X 69)), (1, .int (gI v1)), (2, .int (gI v2)), (3, .int (gI v3)), (5, .int (gI v5)), (6, .int (gI v6))]) (by decide) rfl dX12_cheapest_168 ?_
  refine V_goto (tgt := 86) dX12_cheapest_170 (by decide) ?_
  exact V_sub [1, 2, 3, 4, 0, 5] rfl h
theorem eX12_cheapest {X : Cx} {v1 : Int} {v2 : Int} {v3 : Int} {σ : Sg} {Q : Int → Sg → Prop} (h : GX12_cheapest_0 X v1 v2 v3 σ Q) : KX12_cheapest X v1 v2 v3 σ Q := V_enter (by decide) (Nat.le_of_ble_eq_true rfl) rfl h
def GX12_sets_0 (X : Cx) (v1 : Int) (σ : Sg) (Q : Int → Sg → Prop) : Prop := VV X mX12_sets 0 [(0, .ref (cxA X 69)), (1, .int (gI v1))] [] σ Q
def GX12_sets_19 (X : Cx) (v1 : Int) (v2 : Int) (v3 : Int) (σ : Sg) (Q : Int → Sg → Prop) : Prop := VV X mX12_sets 19 [(0, .ref (cxA X 69)), (1, .int (gI v1)), (2, .int (gI v2)), (3, .int (gI v3))] [] σ Q
def GX12_sets_43 (X : Cx) (v1 : Int) (v2 : Int) (v3 : Int) (s0 : Int) (s1 : Int) (σ : Sg) (Q : Int → Sg → Prop) : Prop := VV X mX12_sets 43 [(0, .ref (cxA X 69)), (1, .int (gI v1)), (2, .int (gI v2)), (3, .int (gI v3))] [.int (gI s0), .int (gI s1)] σ Q
set_option maxHeartbeats 2000000 in
set_option maxRecDepth 20000 in
theorem rX12_sets_0 {X : Cx} {v1 : Int} {σ : Sg} {Q : Int → Sg → Prop} (h : Rng σ → KX12_areWords X v1 σ (fun r1 σ2 => Rng σ2 → (inI r1) ∧ ((¬ r1 = 0 → KX12_search X v1 σ2 (fun r6 σ7 => Rng σ7 → GX12_sets_19 X v1 0 0 σ7 Q)) ∧ (r1 = 0 → Q ((-3)) σ2)))) : GX12_sets_0 X v1 σ Q := by
  unfold GX12_sets_0
  refine V_rng (fun hR0 => ?_)
  have h := h hR0
  refine V_iload_n 1 rfl rfl dX12_sets_0 ?_
  refine V_cS (M' := mX12_areWords) (As := [.int (gI v1)]) (fun r => [.int (gI r)]) ok_X12_areWords ok2_X12_areWords rfl rfl (Nat.le_of_ble_eq_true rfl) dX12_sets_1 lk_RX12_m249 (by decide) (fun _ => rfl) h (fun r1 σ2 h => ?_)
  refine V_rng (fun hR3 => ?_)
  have h := h hR3
  obtain ⟨g4, h⟩ := h
  refine V_if_ne (tgt := 10) dX12_sets_4 (by decide) g4 (fun q5 => ?_) (fun q5 => ?_)
  · have h := h.1 q5
    refine V_aload_n 0 rfl rfl dX12_sets_10 ?_
    refine V_iload_n 1 rfl rfl dX12_sets_11 ?_
    refine V_cV (M' := mX12_search) (As := [.int (gI v1)]) (fun _ => []) ok_X12_search ok2_X12_search sh_69 rfl (by decide) rfl rfl (Nat.le_of_ble_eq_true rfl) dX12_sets_12 lk_RX12_m252 (by decide) (fun _ => rfl) h (fun r6 σ7 h => ?_)
    refine V_rng (fun hR8 => ?_)
    have h := h hR8
    refine V_iconst dX12_sets_15 ?_
    refine V_istore_n (L' := [(2, .int (gI 0)), (0, .ref (cxA X 69)), (1, .int (gI v1))]) rfl (by decide) rfl dX12_sets_16 ?_
    refine V_iconst dX12_sets_17 ?_
    refine V_istore_n (L' := [(3, .int (gI 0)), (2, .int (gI 0)), (0, .ref (cxA X 69)), (1, .int (gI v1))]) rfl (by decide) rfl dX12_sets_18 ?_
    exact V_sub [2, 3, 1, 0] rfl h
  · have h := h.2 q5
    refine V_bipush (v := -3) (by decide) dX12_sets_7 ?_
    exact V_iret rfl (fun _ q => by cases q) (vp_nar_int _) dX12_sets_9 h
set_option maxHeartbeats 2000000 in
set_option maxRecDepth 20000 in
theorem rX12_sets_19 {X : Cx} {v1 : Int} {v2 : Int} {v3 : Int} {σ : Sg} {Q : Int → Sg → Prop} (h : Rng σ → KX12_every X σ (fun r1 σ2 => Rng σ2 → (inI v3) ∧ (inI r1) ∧ ((r1 < v3 → Q v2 σ2) ∧ (v3 ≤ r1 → (0 ≤ v3 ∧ v3 < 256) ∧ ((¬ (σ2 84 v3.toNat) = ((-1)) → GX12_sets_43 X v1 v2 v3 1 v2 σ2 Q) ∧ ((σ2 84 v3.toNat) = ((-1)) → GX12_sets_43 X v1 v2 v3 0 v2 σ2 Q)))))) : GX12_sets_19 X v1 v2 v3 σ Q := by
  unfold GX12_sets_19
  refine V_rng (fun hR0 => ?_)
  have h := h hR0
  refine V_iload_n 3 rfl rfl dX12_sets_19 ?_
  refine V_aload_n 0 rfl rfl dX12_sets_20 ?_
  refine V_cV (M' := mX12_every) (As := []) (fun r => [.int (gI r), .int (gI v3)]) ok_X12_every ok2_X12_every sh_69 rfl (by decide) rfl rfl (Nat.le_of_ble_eq_true rfl) dX12_sets_21 lk_RX12_m204 (by decide) (fun _ => rfl) h (fun r1 σ2 h => ?_)
  refine V_rng (fun hR3 => ?_)
  have h := h hR3
  obtain ⟨g4, h⟩ := h
  obtain ⟨g5, h⟩ := h
  refine V_icmp_gt (tgt := 51) dX12_sets_24 (by decide) g4 g5 (fun q6 => ?_) (fun q6 => ?_)
  · have h := h.1 q6
    refine V_iload_n 2 rfl rfl dX12_sets_51 ?_
    exact V_iret rfl (fun _ q => by cases q) (vp_nar_int _) dX12_sets_52 h
  · have h := h.2 q6
    refine V_iload_n 2 rfl rfl dX12_sets_27 ?_
    refine V_aload_n 0 rfl rfl dX12_sets_28 ?_
    refine V_getR (f := 24) ci_X12 sh_69 rfl (by decide) (c1 := 84) rfl dX12_sets_29 lk_RX12_f52 ?_
    refine V_iload_n 3 rfl rfl dX12_sets_32 ?_
    obtain ⟨g7, h⟩ := h
    refine V_iald sh_84 (by decide) g7 dX12_sets_33 ?_
    refine V_iconst dX12_sets_34 ?_
    refine V_icmp_ne (tgt := 42) dX12_sets_35 (by decide) (show inI (σ2 84 v3.toNat) from (inI_sh hR3 sh_84 (by decide))) (by decide) (fun q8 => ?_) (fun q8 => ?_)
    · have h := h.1 q8
      refine V_iconst dX12_sets_42 ?_
      exact h
    · have h := h.2 q8
      refine V_iconst dX12_sets_38 ?_
      refine V_goto (tgt := 43) dX12_sets_39 (by decide) ?_
      exact h
set_option maxHeartbeats 2000000 in
set_option maxRecDepth 20000 in
theorem rX12_sets_43 {X : Cx} {v1 : Int} {v2 : Int} {v3 : Int} {s0 : Int} {s1 : Int} {σ : Sg} {Q : Int → Sg → Prop} (h : Rng σ → GX12_sets_19 X v1 (s1 + s0) (v3 + 1) σ Q) : GX12_sets_43 X v1 v2 v3 s0 s1 σ Q := by
  unfold GX12_sets_43
  refine V_rng (fun hR0 => ?_)
  have h := h hR0
  refine V_iadd dX12_sets_43 ?_
  refine V_istore_n (L' := [(2, .int (gI (s1 + s0))), (0, .ref (cxA X 69)), (1, .int (gI v1)), (3, .int (gI v3))]) rfl (by decide) rfl dX12_sets_44 ?_
  refine V_iinc (L' := [(3, .int (gI (v3 + 1))), (2, .int (gI (s1 + s0))), (0, .ref (cxA X 69)), (1, .int (gI v1))]) 3 rfl (by decide) rfl dX12_sets_45 ?_
  refine V_goto (tgt := 19) dX12_sets_48 (by decide) ?_
  exact V_sub [2, 3, 1, 0] rfl h
theorem eX12_sets {X : Cx} {v1 : Int} {σ : Sg} {Q : Int → Sg → Prop} (h : GX12_sets_0 X v1 σ Q) : KX12_sets X v1 σ Q := V_enter (by decide) (Nat.le_of_ble_eq_true rfl) rfl h
def GX12_quick_0 (X : Cx) (v1 : Int) (σ : Sg) (Q : Int → Sg → Prop) : Prop := VV X mX12_quick 0 [(0, .ref (cxA X 69)), (1, .int (gI v1))] [] σ Q
def GX12_quick_24 (X : Cx) (v1 : Int) (v2 : Int) (v3 : Int) (v4 : Int) (v5 : Int) (σ : Sg) (Q : Int → Sg → Prop) : Prop := VV X mX12_quick 24 [(0, .ref (cxA X 69)), (1, .int (gI v1)), (2, .int (gI v2)), (3, .int (gI v3)), (4, .int (gI v4)), (5, .int (gI v5))] [] σ Q
def GX12_quick_111 (X : Cx) (v1 : Int) (v2 : Int) (v3 : Int) (v4 : Int) (v5 : Int) (s0 : Int) (σ : Sg) (Q : Int → Sg → Prop) : Prop := VV X mX12_quick 111 [(0, .ref (cxA X 69)), (1, .int (gI v1)), (2, .int (gI v2)), (3, .int (gI v3)), (4, .int (gI v4)), (5, .int (gI v5))] [.int (gI s0)] σ Q
def GX12_quick_194 (X : Cx) (v1 : Int) (v2 : Int) (v3 : Int) (v4 : Int) (v5 : Int) (v6 : Int) (s0 : Int) (s1 : Int) (σ : Sg) (Q : Int → Sg → Prop) : Prop := VV X mX12_quick 194 [(0, .ref (cxA X 69)), (1, .int (gI v1)), (2, .int (gI v2)), (3, .int (gI v3)), (4, .int (gI v4)), (5, .int (gI v5)), (6, .int (gI v6))] [.int (gI s0), .int (gI s1)] σ Q
def GX12_quick_199 (X : Cx) (v1 : Int) (v2 : Int) (v3 : Int) (v4 : Int) (v5 : Int) (v6 : Int) (σ : Sg) (Q : Int → Sg → Prop) : Prop := VV X mX12_quick 199 [(0, .ref (cxA X 69)), (1, .int (gI v1)), (2, .int (gI v2)), (3, .int (gI v3)), (4, .int (gI v4)), (5, .int (gI v5)), (6, .int (gI v6))] [] σ Q
def GX12_quick_205 (X : Cx) (v1 : Int) (v2 : Int) (v3 : Int) (v4 : Int) (v5 : Int) (σ : Sg) (Q : Int → Sg → Prop) : Prop := VV X mX12_quick 205 [(0, .ref (cxA X 69)), (1, .int (gI v1)), (2, .int (gI v2)), (3, .int (gI v3)), (4, .int (gI v4)), (5, .int (gI v5))] [] σ Q
set_option maxHeartbeats 2000000 in
set_option maxRecDepth 20000 in
theorem rX12_quick_0 {X : Cx} {v1 : Int} {σ : Sg} {Q : Int → Sg → Prop} (h : Rng σ → KX12_isThing X v1 σ (fun r1 σ2 => Rng σ2 → (inI r1) ∧ ((¬ r1 = 0 → KX12_every X σ2 (fun r6 σ7 => Rng σ7 → GX12_quick_24 X v1 r6 0 0 0 σ7 Q)) ∧ (r1 = 0 → Q ((-2)) σ2)))) : GX12_quick_0 X v1 σ Q := by
  unfold GX12_quick_0
  refine V_rng (fun hR0 => ?_)
  have h := h hR0
  refine V_aload_n 0 rfl rfl dX12_quick_0 ?_
  refine V_iload_n 1 rfl rfl dX12_quick_1 ?_
  refine V_cV (M' := mX12_isThing) (As := [.int (gI v1)]) (fun r => [.int (gI r)]) ok_X12_isThing ok2_X12_isThing sh_69 rfl (by decide) rfl rfl (Nat.le_of_ble_eq_true rfl) dX12_quick_2 lk_RX12_m106 (by decide) (fun _ => rfl) h (fun r1 σ2 h => ?_)
  refine V_rng (fun hR3 => ?_)
  have h := h hR3
  obtain ⟨g4, h⟩ := h
  refine V_if_ne (tgt := 11) dX12_quick_5 (by decide) g4 (fun q5 => ?_) (fun q5 => ?_)
  · have h := h.1 q5
    refine V_aload_n 0 rfl rfl dX12_quick_11 ?_
    refine V_cV (M' := mX12_every) (As := []) (fun r => [.int (gI r)]) ok_X12_every ok2_X12_every sh_69 rfl (by decide) rfl rfl (Nat.le_of_ble_eq_true rfl) dX12_quick_12 lk_RX12_m204 (by decide) (fun _ => rfl) h (fun r6 σ7 h => ?_)
    refine V_rng (fun hR8 => ?_)
    have h := h hR8
    refine V_istore_n (L' := [(2, .int (gI r6)), (0, .ref (cxA X 69)), (1, .int (gI v1))]) rfl (by decide) rfl dX12_quick_15 ?_
    refine V_iconst dX12_quick_16 ?_
    refine V_istore_n (L' := [(3, .int (gI 0)), (2, .int (gI r6)), (0, .ref (cxA X 69)), (1, .int (gI v1))]) rfl (by decide) rfl dX12_quick_17 ?_
    refine V_iconst dX12_quick_18 ?_
    refine V_istore (L' := [(4, .int (gI 0)), (3, .int (gI 0)), (2, .int (gI r6)), (0, .ref (cxA X 69)), (1, .int (gI v1))]) (by decide) rfl dX12_quick_19 ?_
    refine V_iconst dX12_quick_21 ?_
    refine V_istore (L' := [(5, .int (gI 0)), (4, .int (gI 0)), (3, .int (gI 0)), (2, .int (gI r6)), (0, .ref (cxA X 69)), (1, .int (gI v1))]) (by decide) rfl dX12_quick_22 ?_
    exact V_sub [4, 5, 3, 2, 1, 0] rfl h
  · have h := h.2 q5
    refine V_bipush (v := -2) (by decide) dX12_quick_8 ?_
    exact V_iret rfl (fun _ q => by cases q) (vp_nar_int _) dX12_quick_10 h
set_option maxHeartbeats 2000000 in
set_option maxRecDepth 20000 in
theorem rX12_quick_24 {X : Cx} {v1 : Int} {v2 : Int} {v3 : Int} {v4 : Int} {v5 : Int} {σ : Sg} {Q : Int → Sg → Prop} (h : Rng σ → (inI v5) ∧ ((8 ≤ v5 → GX12_quick_205 X v1 v2 v3 v4 v5 σ Q) ∧ (v5 < 8 → (inI v2) ∧ ((v2 = (zshl 1 v1) → GX12_quick_205 X v1 v2 v3 v4 v5 σ Q) ∧ (¬ v2 = (zshl 1 v1) → (inI v5) ∧ ((¬ v5 = 0 → (inI v5) ∧ ((¬ v5 = 1 → (inI v5) ∧ ((5 ≤ v5 → KX12_every X σ (fun r11 σ12 => Rng σ12 → KX12_allOf X 3 (v5 - 5) σ12 (fun r14 σ15 => Rng σ15 → GX12_quick_111 X v1 v2 v3 v4 v5 (zand r11 (zxor r14 ((-1)))) σ15 Q))) ∧ (v5 < 5 → KX12_allOf X 3 (v5 - 2) σ (fun r17 σ18 => Rng σ18 → GX12_quick_111 X v1 v2 v3 v4 v5 r17 σ18 Q)))) ∧ (v5 = 1 → (0 ≤ v1 ∧ v1 < 8) ∧ KX12_allOf X 2 (σ 71 v1.toNat) σ (fun r21 σ22 => Rng σ22 → GX12_quick_111 X v1 v2 v3 v4 v5 r21 σ22 Q)))) ∧ (v5 = 0 → (0 ≤ v1 ∧ v1 < 8) ∧ KX12_allOf X 1 (σ 70 v1.toNat) σ (fun r25 σ26 => Rng σ26 → GX12_quick_111 X v1 v2 v3 v4 v5 r25 σ26 Q)))))))) : GX12_quick_24 X v1 v2 v3 v4 v5 σ Q := by
  unfold GX12_quick_24
  refine V_rng (fun hR0 => ?_)
  have h := h hR0
  refine V_iload 5 rfl dX12_quick_24 ?_
  refine V_bipush (v := 8) (by decide) dX12_quick_26 ?_
  obtain ⟨g1, h⟩ := h
  refine V_icmp_ge (tgt := 205) dX12_quick_28 (by decide) g1 (by decide) (fun q2 => ?_) (fun q2 => ?_)
  · have h := h.1 q2
    exact h
  · have h := h.2 q2
    refine V_iload_n 2 rfl rfl dX12_quick_31 ?_
    refine V_iconst dX12_quick_32 ?_
    refine V_iload_n 1 rfl rfl dX12_quick_33 ?_
    refine V_ishl dX12_quick_34 ?_
    obtain ⟨g3, h⟩ := h
    refine V_icmp_eq (tgt := 205) dX12_quick_35 (by decide) g3 (inI_z _) (fun q4 => ?_) (fun q4 => ?_)
    · have h := h.1 q4
      exact h
    · have h := h.2 q4
      refine V_iload 5 rfl dX12_quick_38 ?_
      obtain ⟨g5, h⟩ := h
      refine V_if_ne (tgt := 57) dX12_quick_40 (by decide) g5 (fun q6 => ?_) (fun q6 => ?_)
      · have h := h.1 q6
        refine V_iload 5 rfl dX12_quick_57 ?_
        refine V_iconst dX12_quick_59 ?_
        obtain ⟨g7, h⟩ := h
        refine V_icmp_ne (tgt := 77) dX12_quick_60 (by decide) g7 (by decide) (fun q8 => ?_) (fun q8 => ?_)
        · have h := h.1 q8
          refine V_iload 5 rfl dX12_quick_77 ?_
          refine V_iconst dX12_quick_79 ?_
          obtain ⟨g9, h⟩ := h
          refine V_icmp_ge (tgt := 95) dX12_quick_80 (by decide) g9 (by decide) (fun q10 => ?_) (fun q10 => ?_)
          · have h := h.1 q10
            refine V_aload_n 0 rfl rfl dX12_quick_95 ?_
            refine V_cV (M' := mX12_every) (As := []) (fun r => [.int (gI r)]) ok_X12_every ok2_X12_every sh_69 rfl (by decide) rfl rfl (Nat.le_of_ble_eq_true rfl) dX12_quick_96 lk_RX12_m204 (by decide) (fun _ => rfl) h (fun r11 σ12 h => ?_)
            refine V_rng (fun hR13 => ?_)
            have h := h hR13
            refine V_aload_n 0 rfl rfl dX12_quick_99 ?_
            refine V_iconst dX12_quick_100 ?_
            refine V_iload 5 rfl dX12_quick_101 ?_
            refine V_iconst dX12_quick_103 ?_
            refine V_isub dX12_quick_104 ?_
            refine V_cV (M' := mX12_allOf) (As := [.int (gI 3), .int (gI (v5 - 5))]) (fun r => [.int (gI r), .int (gI r11)]) ok_X12_allOf ok2_X12_allOf sh_69 rfl (by decide) rfl rfl (Nat.le_of_ble_eq_true rfl) dX12_quick_105 lk_RX12_m214 (by decide) (fun _ => rfl) h (fun r14 σ15 h => ?_)
            refine V_rng (fun hR16 => ?_)
            have h := h hR16
            refine V_iconst dX12_quick_108 ?_
            refine V_ixor dX12_quick_109 ?_
            refine V_iand dX12_quick_110 ?_
            exact h
          · have h := h.2 q10
            refine V_aload_n 0 rfl rfl dX12_quick_83 ?_
            refine V_iconst dX12_quick_84 ?_
            refine V_iload 5 rfl dX12_quick_85 ?_
            refine V_iconst dX12_quick_87 ?_
            refine V_isub dX12_quick_88 ?_
            refine V_cV (M' := mX12_allOf) (As := [.int (gI 3), .int (gI (v5 - 2))]) (fun r => [.int (gI r)]) ok_X12_allOf ok2_X12_allOf sh_69 rfl (by decide) rfl rfl (Nat.le_of_ble_eq_true rfl) dX12_quick_89 lk_RX12_m214 (by decide) (fun _ => rfl) h (fun r17 σ18 h => ?_)
            refine V_rng (fun hR19 => ?_)
            have h := h hR19
            refine V_goto (tgt := 111) dX12_quick_92 (by decide) ?_
            exact h
        · have h := h.2 q8
          refine V_aload_n 0 rfl rfl dX12_quick_63 ?_
          refine V_iconst dX12_quick_64 ?_
          refine V_aload_n 0 rfl rfl dX12_quick_65 ?_
          refine V_getR (f := 2) ci_X12 sh_69 rfl (by decide) (c1 := 71) rfl dX12_quick_66 lk_RX12_f13 ?_
          refine V_iload_n 1 rfl rfl dX12_quick_69 ?_
          obtain ⟨g20, h⟩ := h
          refine V_iald sh_71 (by decide) g20 dX12_quick_70 ?_
          refine V_cV (M' := mX12_allOf) (As := [.int (gI 2), .int (gI (σ 71 v1.toNat))]) (fun r => [.int (gI r)]) ok_X12_allOf ok2_X12_allOf sh_69 rfl (by decide) rfl rfl (Nat.le_of_ble_eq_true rfl) dX12_quick_71 lk_RX12_m214 (by decide) (fun _ => rfl) h (fun r21 σ22 h => ?_)
          refine V_rng (fun hR23 => ?_)
          have h := h hR23
          refine V_goto (tgt := 111) dX12_quick_74 (by decide) ?_
          exact h
      · have h := h.2 q6
        refine V_aload_n 0 rfl rfl dX12_quick_43 ?_
        refine V_iconst dX12_quick_44 ?_
        refine V_aload_n 0 rfl rfl dX12_quick_45 ?_
        refine V_getR (f := 1) ci_X12 sh_69 rfl (by decide) (c1 := 70) rfl dX12_quick_46 lk_RX12_f7 ?_
        refine V_iload_n 1 rfl rfl dX12_quick_49 ?_
        obtain ⟨g24, h⟩ := h
        refine V_iald sh_70 (by decide) g24 dX12_quick_50 ?_
        refine V_cV (M' := mX12_allOf) (As := [.int (gI 1), .int (gI (σ 70 v1.toNat))]) (fun r => [.int (gI r)]) ok_X12_allOf ok2_X12_allOf sh_69 rfl (by decide) rfl rfl (Nat.le_of_ble_eq_true rfl) dX12_quick_51 lk_RX12_m214 (by decide) (fun _ => rfl) h (fun r25 σ26 h => ?_)
        refine V_rng (fun hR27 => ?_)
        have h := h hR27
        refine V_goto (tgt := 111) dX12_quick_54 (by decide) ?_
        exact h
set_option maxHeartbeats 2000000 in
set_option maxRecDepth 20000 in
theorem rX12_quick_111 {X : Cx} {v1 : Int} {v2 : Int} {v3 : Int} {v4 : Int} {v5 : Int} {s0 : Int} {σ : Sg} {Q : Int → Sg → Prop} (h : Rng σ → ((¬ (zand (zshr s0 v1) 1) = 1 → GX12_quick_199 X v1 v2 v3 v4 v5 s0 σ Q) ∧ ((zand (zshr s0 v1) 1) = 1 → (inI v2) ∧ (((zand v2 s0) = v2 → GX12_quick_199 X v1 v2 v3 v4 v5 s0 σ Q) ∧ (¬ (zand v2 s0) = v2 → (inI v5) ∧ ((¬ v5 = 0 → (inI v5) ∧ ((¬ v5 = 1 → (inI v5) ∧ ((5 ≤ v5 → GX12_quick_194 X v1 (zand v2 s0) v3 v4 v5 s0 ((σ 76 4) + (σ 76 3)) v3 σ Q) ∧ (v5 < 5 → GX12_quick_194 X v1 (zand v2 s0) v3 v4 v5 s0 (σ 76 3) v3 σ Q))) ∧ (v5 = 1 → GX12_quick_194 X v1 (zand v2 s0) v3 v4 v5 s0 (σ 76 2) v3 σ Q))) ∧ (v5 = 0 → GX12_quick_194 X v1 (zand v2 s0) v3 v4 v5 s0 (σ 76 1) v3 σ Q))))))) : GX12_quick_111 X v1 v2 v3 v4 v5 s0 σ Q := by
  unfold GX12_quick_111
  refine V_rng (fun hR0 => ?_)
  have h := h hR0
  refine V_istore (L' := [(6, .int (gI s0)), (0, .ref (cxA X 69)), (1, .int (gI v1)), (2, .int (gI v2)), (3, .int (gI v3)), (4, .int (gI v4)), (5, .int (gI v5))]) (by decide) rfl dX12_quick_111 ?_
  refine V_iload 0 rfl dX12_quick_113 ?_
  refine V_iload_n 2 rfl rfl dX12_quick_115 ?_
  refine V_ishr dX12_quick_116 ?_
  refine V_iconst dX12_quick_117 ?_
  refine V_iand dX12_quick_118 ?_
  refine V_iconst dX12_quick_119 ?_
  refine V_icmp_ne (tgt := 199) dX12_quick_120 (by decide) (inI_z _) (by decide) (fun q1 => ?_) (fun q1 => ?_)
  · have h := h.1 q1
    exact V_sub [1, 2, 3, 4, 5, 6, 0] rfl h
  · have h := h.2 q1
    refine V_iload_n 3 rfl rfl dX12_quick_123 ?_
    refine V_iload 0 rfl dX12_quick_124 ?_
    refine V_iand dX12_quick_126 ?_
    refine V_iload_n 3 rfl rfl dX12_quick_127 ?_
    obtain ⟨g2, h⟩ := h
    refine V_icmp_eq (tgt := 199) dX12_quick_128 (by decide) (inI_z _) g2 (fun q3 => ?_) (fun q3 => ?_)
    · have h := h.1 q3
      exact V_sub [1, 2, 3, 4, 5, 6, 0] rfl h
    · have h := h.2 q3
      refine V_iload_n 3 rfl rfl dX12_quick_131 ?_
      refine V_iload 0 rfl dX12_quick_132 ?_
      refine V_iand dX12_quick_134 ?_
      refine V_istore_n (L' := [(2, .int (gI (zand v2 s0))), (6, .int (gI s0)), (0, .ref (cxA X 69)), (1, .int (gI v1)), (3, .int (gI v3)), (4, .int (gI v4)), (5, .int (gI v5))]) rfl (by decide) rfl dX12_quick_135 ?_
      refine V_iload_n 4 rfl rfl dX12_quick_136 ?_
      refine V_iload 6 rfl dX12_quick_137 ?_
      obtain ⟨g4, h⟩ := h
      refine V_if_ne (tgt := 151) dX12_quick_139 (by decide) g4 (fun q5 => ?_) (fun q5 => ?_)
      · have h := h.1 q5
        refine V_iload 6 rfl dX12_quick_151 ?_
        refine V_iconst dX12_quick_153 ?_
        obtain ⟨g6, h⟩ := h
        refine V_icmp_ne (tgt := 166) dX12_quick_154 (by decide) g6 (by decide) (fun q7 => ?_) (fun q7 => ?_)
        · have h := h.1 q7
          refine V_iload 6 rfl dX12_quick_166 ?_
          refine V_iconst dX12_quick_168 ?_
          obtain ⟨g8, h⟩ := h
          refine V_icmp_ge (tgt := 181) dX12_quick_169 (by decide) g8 (by decide) (fun q9 => ?_) (fun q9 => ?_)
          · have h := h.1 q9
            refine V_aload_n 2 rfl rfl dX12_quick_181 ?_
            refine V_getR (f := 7) ci_X12 sh_69 rfl (by decide) (c1 := 76) rfl dX12_quick_182 lk_RX12_f28 ?_
            refine V_iconst dX12_quick_185 ?_
            refine V_iald sh_76 (by decide) (by decide) dX12_quick_186 ?_
            refine V_aload_n 2 rfl rfl dX12_quick_187 ?_
            refine V_getR (f := 7) ci_X12 sh_69 rfl (by decide) (c1 := 76) rfl dX12_quick_188 lk_RX12_f28 ?_
            refine V_iconst dX12_quick_191 ?_
            refine V_iald sh_76 (by decide) (by decide) dX12_quick_192 ?_
            refine V_iadd dX12_quick_193 ?_
            exact V_sub [2, 3, 0, 4, 5, 6, 1] rfl h
          · have h := h.2 q9
            refine V_aload_n 2 rfl rfl dX12_quick_172 ?_
            refine V_getR (f := 7) ci_X12 sh_69 rfl (by decide) (c1 := 76) rfl dX12_quick_173 lk_RX12_f28 ?_
            refine V_iconst dX12_quick_176 ?_
            refine V_iald sh_76 (by decide) (by decide) dX12_quick_177 ?_
            refine V_goto (tgt := 194) dX12_quick_178 (by decide) ?_
            exact V_sub [2, 3, 0, 4, 5, 6, 1] rfl h
        · have h := h.2 q7
          refine V_aload_n 2 rfl rfl dX12_quick_157 ?_
          refine V_getR (f := 7) ci_X12 sh_69 rfl (by decide) (c1 := 76) rfl dX12_quick_158 lk_RX12_f28 ?_
          refine V_iconst dX12_quick_161 ?_
          refine V_iald sh_76 (by decide) (by decide) dX12_quick_162 ?_
          refine V_goto (tgt := 194) dX12_quick_163 (by decide) ?_
          exact V_sub [2, 3, 0, 4, 5, 6, 1] rfl h
      · have h := h.2 q5
        refine V_aload_n 2 rfl rfl dX12_quick_142 ?_
        refine V_getR (f := 7) ci_X12 sh_69 rfl (by decide) (c1 := 76) rfl dX12_quick_143 lk_RX12_f28 ?_
        refine V_iconst dX12_quick_146 ?_
        refine V_iald sh_76 (by decide) (by decide) dX12_quick_147 ?_
        refine V_goto (tgt := 194) dX12_quick_148 (by decide) ?_
        exact V_sub [2, 3, 0, 4, 5, 6, 1] rfl h
set_option maxHeartbeats 2000000 in
set_option maxRecDepth 20000 in
theorem rX12_quick_194 {X : Cx} {v1 : Int} {v2 : Int} {v3 : Int} {v4 : Int} {v5 : Int} {v6 : Int} {s0 : Int} {s1 : Int} {σ : Sg} {Q : Int → Sg → Prop} (h : Rng σ → GX12_quick_199 X v1 v2 (s1 + s0) (v4 + 1) v5 v6 σ Q) : GX12_quick_194 X v1 v2 v3 v4 v5 v6 s0 s1 σ Q := by
  unfold GX12_quick_194
  refine V_rng (fun hR0 => ?_)
  have h := h hR0
  refine V_iadd dX12_quick_194 ?_
  refine V_istore_n (L' := [(3, .int (gI (s1 + s0))), (0, .ref (cxA X 69)), (1, .int (gI v1)), (2, .int (gI v2)), (4, .int (gI v4)), (5, .int (gI v5)), (6, .int (gI v6))]) rfl (by decide) rfl dX12_quick_195 ?_
  refine V_iinc (L' := [(4, .int (gI (v4 + 1))), (3, .int (gI (s1 + s0))), (0, .ref (cxA X 69)), (1, .int (gI v1)), (2, .int (gI v2)), (5, .int (gI v5)), (6, .int (gI v6))]) 4 rfl (by decide) rfl dX12_quick_196 ?_
  exact V_sub [2, 3, 4, 1, 0, 5, 6] rfl h
set_option maxHeartbeats 2000000 in
set_option maxRecDepth 20000 in
theorem rX12_quick_199 {X : Cx} {v1 : Int} {v2 : Int} {v3 : Int} {v4 : Int} {v5 : Int} {v6 : Int} {σ : Sg} {Q : Int → Sg → Prop} (h : Rng σ → GX12_quick_24 X v1 v2 v3 v4 (v5 + 1) σ Q) : GX12_quick_199 X v1 v2 v3 v4 v5 v6 σ Q := by
  unfold GX12_quick_199
  refine V_rng (fun hR0 => ?_)
  have h := h hR0
  refine V_iinc (L' := [(5, .int (gI (v5 + 1))), (0, .ref (cxA X 69)), (1, .int (gI v1)), (2, .int (gI v2)), (3, .int (gI v3)), (4, .int (gI v4)), (6, .int (gI v6))]) 5 rfl (by decide) rfl dX12_quick_199 ?_
  refine V_goto (tgt := 24) dX12_quick_202 (by decide) ?_
  exact V_sub [1, 2, 3, 4, 5, 0] rfl h
set_option maxHeartbeats 2000000 in
set_option maxRecDepth 20000 in
theorem rX12_quick_205 {X : Cx} {v1 : Int} {v2 : Int} {v3 : Int} {v4 : Int} {v5 : Int} {σ : Sg} {Q : Int → Sg → Prop} (h : Rng σ → (inI v2) ∧ ((v2 = (zshl 1 v1) → (inI v4) ∧ ((¬ v4 = 0 → Q (v3 + ((v4 - 1) * (σ 76 5))) σ) ∧ (v4 = 0 → Q (σ 76 0) σ))) ∧ (¬ v2 = (zshl 1 v1) → Q ((-1)) σ))) : GX12_quick_205 X v1 v2 v3 v4 v5 σ Q := by
  unfold GX12_quick_205
  refine V_rng (fun hR0 => ?_)
  have h := h hR0
  refine V_iload_n 2 rfl rfl dX12_quick_205 ?_
  refine V_iconst dX12_quick_206 ?_
  refine V_iload_n 1 rfl rfl dX12_quick_207 ?_
  refine V_ishl dX12_quick_208 ?_
  obtain ⟨g1, h⟩ := h
  refine V_icmp_eq (tgt := 214) dX12_quick_209 (by decide) g1 (inI_z _) (fun q2 => ?_) (fun q2 => ?_)
  · have h := h.1 q2
    refine V_iload 4 rfl dX12_quick_214 ?_
    obtain ⟨g3, h⟩ := h
    refine V_if_ne (tgt := 228) dX12_quick_216 (by decide) g3 (fun q4 => ?_) (fun q4 => ?_)
    · have h := h.1 q4
      refine V_iload_n 3 rfl rfl dX12_quick_228 ?_
      refine V_iload 4 rfl dX12_quick_229 ?_
      refine V_iconst dX12_quick_231 ?_
      refine V_isub dX12_quick_232 ?_
      refine V_aload_n 0 rfl rfl dX12_quick_233 ?_
      refine V_getR (f := 7) ci_X12 sh_69 rfl (by decide) (c1 := 76) rfl dX12_quick_234 lk_RX12_f28 ?_
      refine V_iconst dX12_quick_237 ?_
      refine V_iald sh_76 (by decide) (by decide) dX12_quick_238 ?_
      refine V_imul dX12_quick_239 ?_
      refine V_iadd dX12_quick_240 ?_
      exact V_iret rfl (fun _ q => by cases q) (vp_nar_int _) dX12_quick_241 h
    · have h := h.2 q4
      refine V_aload_n 0 rfl rfl dX12_quick_219 ?_
      refine V_getR (f := 7) ci_X12 sh_69 rfl (by decide) (c1 := 76) rfl dX12_quick_220 lk_RX12_f28 ?_
      refine V_iconst dX12_quick_223 ?_
      refine V_iald sh_76 (by decide) (by decide) dX12_quick_224 ?_
      refine V_goto (tgt := 241) dX12_quick_225 (by decide) ?_
      exact V_iret rfl (fun _ q => by cases q) (vp_nar_int _) dX12_quick_241 h
  · have h := h.2 q2
    refine V_iconst dX12_quick_212 ?_
    exact V_iret rfl (fun _ q => by cases q) (vp_nar_int _) dX12_quick_213 h
theorem eX12_quick {X : Cx} {v1 : Int} {σ : Sg} {Q : Int → Sg → Prop} (h : GX12_quick_0 X v1 σ Q) : KX12_quick X v1 σ Q := V_enter (by decide) (Nat.le_of_ble_eq_true rfl) rfl h
def GX12_howMany_0 (X : Cx) (v1 : Int) (v2 : Int) (σ : Sg) (Q : Int → Sg → Prop) : Prop := VV X mX12_howMany 0 [(0, .ref (cxA X 69)), (1, .int (gI v1)), (2, .int (gI v2))] [] σ Q
def GX12_howMany_5 (X : Cx) (v1 : Int) (v2 : Int) (v3 : Int) (v4 : Int) (σ : Sg) (Q : Int → Sg → Prop) : Prop := VV X mX12_howMany 5 [(0, .ref (cxA X 69)), (1, .int (gI v1)), (2, .int (gI v2)), (3, .int (gI v3)), (4, .int (gI v4))] [] σ Q
def GX12_howMany_40 (X : Cx) (v1 : Int) (v2 : Int) (v3 : Int) (v4 : Int) (s0 : Int) (σ : Sg) (Q : Int → Sg → Prop) : Prop := VV X mX12_howMany 40 [(0, .ref (cxA X 69)), (1, .int (gI v1)), (2, .int (gI v2)), (3, .int (gI v3)), (4, .int (gI v4))] [.int (gI s0)] σ Q
def GX12_howMany_41 (X : Cx) (v1 : Int) (v2 : Int) (v3 : Int) (v4 : Int) (s0 : Int) (s1 : Int) (σ : Sg) (Q : Int → Sg → Prop) : Prop := VV X mX12_howMany 41 [(0, .ref (cxA X 69)), (1, .int (gI v1)), (2, .int (gI v2)), (3, .int (gI v3)), (4, .int (gI v4))] [.int (gI s0), .int (gI s1)] σ Q
set_option maxHeartbeats 2000000 in
set_option maxRecDepth 20000 in
theorem rX12_howMany_0 {X : Cx} {v1 : Int} {v2 : Int} {σ : Sg} {Q : Int → Sg → Prop} (h : Rng σ → GX12_howMany_5 X v1 v2 0 0 σ Q) : GX12_howMany_0 X v1 v2 σ Q := by
  unfold GX12_howMany_0
  refine V_rng (fun hR0 => ?_)
  have h := h hR0
  refine V_iconst dX12_howMany_0 ?_
  refine V_istore_n (L' := [(3, .int (gI 0)), (0, .ref (cxA X 69)), (1, .int (gI v1)), (2, .int (gI v2))]) rfl (by decide) rfl dX12_howMany_1 ?_
  refine V_iconst dX12_howMany_2 ?_
  refine V_istore (L' := [(4, .int (gI 0)), (3, .int (gI 0)), (0, .ref (cxA X 69)), (1, .int (gI v1)), (2, .int (gI v2))]) (by decide) rfl dX12_howMany_3 ?_
  exact V_sub [2, 3, 4, 1, 0] rfl h
set_option maxHeartbeats 2000000 in
set_option maxRecDepth 20000 in
theorem rX12_howMany_5 {X : Cx} {v1 : Int} {v2 : Int} {v3 : Int} {v4 : Int} {σ : Sg} {Q : Int → Sg → Prop} (h : Rng σ → (inI v4) ∧ (((σ 69 0) ≤ v4 → Q v3 σ) ∧ (v4 < (σ 69 0) → ((¬ (zand (zshr v1 v4) 1) = 1 → GX12_howMany_40 X v1 v2 v3 v4 v3 σ Q) ∧ ((zand (zshr v1 v4) 1) = 1 → (0 ≤ v4 ∧ v4 < 8) ∧ (inI v2) ∧ ((¬ (σ 91 v4.toNat) = v2 → GX12_howMany_40 X v1 v2 v3 v4 v3 σ Q) ∧ ((σ 91 v4.toNat) = v2 → GX12_howMany_41 X v1 v2 v3 v4 1 v3 σ Q))))))) : GX12_howMany_5 X v1 v2 v3 v4 σ Q := by
  unfold GX12_howMany_5
  refine V_rng (fun hR0 => ?_)
  have h := h hR0
  refine V_iload 4 rfl dX12_howMany_5 ?_
  refine V_aload_n 0 rfl rfl dX12_howMany_7 ?_
  refine V_getI (f := 0) ci_X12 sh_69 rfl (by decide) dX12_howMany_8 lk_RX12_f98 ?_
  obtain ⟨g1, h⟩ := h
  refine V_icmp_ge (tgt := 49) dX12_howMany_11 (by decide) g1 (show inI (σ 69 0) from (hR0.1 69 0 (by decide))) (fun q2 => ?_) (fun q2 => ?_)
  · have h := h.1 q2
    refine V_iload_n 3 rfl rfl dX12_howMany_49 ?_
    exact V_iret rfl (fun _ q => by cases q) (vp_nar_int _) dX12_howMany_50 h
  · have h := h.2 q2
    refine V_iload_n 3 rfl rfl dX12_howMany_14 ?_
    refine V_iload_n 1 rfl rfl dX12_howMany_15 ?_
    refine V_iload 4 rfl dX12_howMany_16 ?_
    refine V_ishr dX12_howMany_18 ?_
    refine V_iconst dX12_howMany_19 ?_
    refine V_iand dX12_howMany_20 ?_
    refine V_iconst dX12_howMany_21 ?_
    refine V_icmp_ne (tgt := 40) dX12_howMany_22 (by decide) (inI_z _) (by decide) (fun q3 => ?_) (fun q3 => ?_)
    · have h := h.1 q3
      exact h
    · have h := h.2 q3
      refine V_aload_n 0 rfl rfl dX12_howMany_25 ?_
      refine V_getR (f := 31) ci_X12 sh_69 rfl (by decide) (c1 := 91) rfl dX12_howMany_26 lk_RX12_f74 ?_
      refine V_iload 4 rfl dX12_howMany_29 ?_
      obtain ⟨g4, h⟩ := h
      refine V_iald sh_91 (by decide) g4 dX12_howMany_31 ?_
      refine V_iload_n 2 rfl rfl dX12_howMany_32 ?_
      obtain ⟨g5, h⟩ := h
      refine V_icmp_ne (tgt := 40) dX12_howMany_33 (by decide) (show inI (σ 91 v4.toNat) from (inI_sh hR0 sh_91 (by decide))) g5 (fun q6 => ?_) (fun q6 => ?_)
      · have h := h.1 q6
        exact h
      · have h := h.2 q6
        refine V_iconst dX12_howMany_36 ?_
        refine V_goto (tgt := 41) dX12_howMany_37 (by decide) ?_
        exact h
set_option maxHeartbeats 2000000 in
set_option maxRecDepth 20000 in
theorem rX12_howMany_40 {X : Cx} {v1 : Int} {v2 : Int} {v3 : Int} {v4 : Int} {s0 : Int} {σ : Sg} {Q : Int → Sg → Prop} (h : Rng σ → GX12_howMany_41 X v1 v2 v3 v4 0 s0 σ Q) : GX12_howMany_40 X v1 v2 v3 v4 s0 σ Q := by
  unfold GX12_howMany_40
  refine V_rng (fun hR0 => ?_)
  have h := h hR0
  refine V_iconst dX12_howMany_40 ?_
  exact h
set_option maxHeartbeats 2000000 in
set_option maxRecDepth 20000 in
theorem rX12_howMany_41 {X : Cx} {v1 : Int} {v2 : Int} {v3 : Int} {v4 : Int} {s0 : Int} {s1 : Int} {σ : Sg} {Q : Int → Sg → Prop} (h : Rng σ → GX12_howMany_5 X v1 v2 (s1 + s0) (v4 + 1) σ Q) : GX12_howMany_41 X v1 v2 v3 v4 s0 s1 σ Q := by
  unfold GX12_howMany_41
  refine V_rng (fun hR0 => ?_)
  have h := h hR0
  refine V_iadd dX12_howMany_41 ?_
  refine V_istore_n (L' := [(3, .int (gI (s1 + s0))), (0, .ref (cxA X 69)), (1, .int (gI v1)), (2, .int (gI v2)), (4, .int (gI v4))]) rfl (by decide) rfl dX12_howMany_42 ?_
  refine V_iinc (L' := [(4, .int (gI (v4 + 1))), (3, .int (gI (s1 + s0))), (0, .ref (cxA X 69)), (1, .int (gI v1)), (2, .int (gI v2))]) 4 rfl (by decide) rfl dX12_howMany_43 ?_
  refine V_goto (tgt := 5) dX12_howMany_46 (by decide) ?_
  exact V_sub [2, 3, 4, 1, 0] rfl h
theorem eX12_howMany {X : Cx} {v1 : Int} {v2 : Int} {σ : Sg} {Q : Int → Sg → Prop} (h : GX12_howMany_0 X v1 v2 σ Q) : KX12_howMany X v1 v2 σ Q := V_enter (by decide) (Nat.le_of_ble_eq_true rfl) rfl h
def GX12_tiesTo_0 (X : Cx) (v1 : Int) (σ : Sg) (Q : Int → Sg → Prop) : Prop := VV X mX12_tiesTo 0 [(0, .ref (cxA X 69)), (1, .int (gI v1))] [] σ Q
def GX12_tiesTo_4 (X : Cx) (v1 : Int) (v2 : Int) (v3 : Int) (σ : Sg) (Q : Int → Sg → Prop) : Prop := VV X mX12_tiesTo 4 [(0, .ref (cxA X 69)), (1, .int (gI v1)), (2, .int (gI v2)), (3, .int (gI v3))] [] σ Q
set_option maxHeartbeats 2000000 in
set_option maxRecDepth 20000 in
theorem rX12_tiesTo_0 {X : Cx} {v1 : Int} {σ : Sg} {Q : Int → Sg → Prop} (h : Rng σ → GX12_tiesTo_4 X v1 0 0 σ Q) : GX12_tiesTo_0 X v1 σ Q := by
  unfold GX12_tiesTo_0
  refine V_rng (fun hR0 => ?_)
  have h := h hR0
  refine V_iconst dX12_tiesTo_0 ?_
  refine V_istore_n (L' := [(2, .int (gI 0)), (0, .ref (cxA X 69)), (1, .int (gI v1))]) rfl (by decide) rfl dX12_tiesTo_1 ?_
  refine V_iconst dX12_tiesTo_2 ?_
  refine V_istore_n (L' := [(3, .int (gI 0)), (2, .int (gI 0)), (0, .ref (cxA X 69)), (1, .int (gI v1))]) rfl (by decide) rfl dX12_tiesTo_3 ?_
  exact V_sub [2, 3, 1, 0] rfl h
set_option maxHeartbeats 2000000 in
set_option maxRecDepth 20000 in
theorem rX12_tiesTo_4 {X : Cx} {v1 : Int} {v2 : Int} {v3 : Int} {σ : Sg} {Q : Int → Sg → Prop} (h : Rng σ → (inI v3) ∧ (((σ 69 0) ≤ v3 → Q v2 σ) ∧ (v3 < (σ 69 0) → (0 ≤ v3 ∧ v3 < 8) ∧ GX12_tiesTo_4 X v1 (zor v2 (zshl (zand (zshr (σ 75 v3.toNat) v1) 1) v3)) (v3 + 1) σ Q))) : GX12_tiesTo_4 X v1 v2 v3 σ Q := by
  unfold GX12_tiesTo_4
  refine V_rng (fun hR0 => ?_)
  have h := h hR0
  refine V_iload_n 3 rfl rfl dX12_tiesTo_4 ?_
  refine V_aload_n 0 rfl rfl dX12_tiesTo_5 ?_
  refine V_getI (f := 0) ci_X12 sh_69 rfl (by decide) dX12_tiesTo_6 lk_RX12_f98 ?_
  obtain ⟨g1, h⟩ := h
  refine V_icmp_ge (tgt := 33) dX12_tiesTo_9 (by decide) g1 (show inI (σ 69 0) from (hR0.1 69 0 (by decide))) (fun q2 => ?_) (fun q2 => ?_)
  · have h := h.1 q2
    refine V_iload_n 2 rfl rfl dX12_tiesTo_33 ?_
    exact V_iret rfl (fun _ q => by cases q) (vp_nar_int _) dX12_tiesTo_34 h
  · have h := h.2 q2
    refine V_iload_n 2 rfl rfl dX12_tiesTo_12 ?_
    refine V_aload_n 0 rfl rfl dX12_tiesTo_13 ?_
    refine V_getR (f := 6) ci_X12 sh_69 rfl (by decide) (c1 := 75) rfl dX12_tiesTo_14 lk_RX12_f25 ?_
    refine V_iload_n 3 rfl rfl dX12_tiesTo_17 ?_
    obtain ⟨g3, h⟩ := h
    refine V_iald sh_75 (by decide) g3 dX12_tiesTo_18 ?_
    refine V_iload_n 1 rfl rfl dX12_tiesTo_19 ?_
    refine V_ishr dX12_tiesTo_20 ?_
    refine V_iconst dX12_tiesTo_21 ?_
    refine V_iand dX12_tiesTo_22 ?_
    refine V_iload_n 3 rfl rfl dX12_tiesTo_23 ?_
    refine V_ishl dX12_tiesTo_24 ?_
    refine V_ior dX12_tiesTo_25 ?_
    refine V_istore_n (L' := [(2, .int (gI (zor v2 (zshl (zand (zshr (σ 75 v3.toNat) v1) 1) v3)))), (0, .ref (cxA X 69)), (1, .int (gI v1)), (3, .int (gI v3))]) rfl (by decide) rfl dX12_tiesTo_26 ?_
    refine V_iinc (L' := [(3, .int (gI (v3 + 1))), (2, .int (gI (zor v2 (zshl (zand (zshr (σ 75 v3.toNat) v1) 1) v3)))), (0, .ref (cxA X 69)), (1, .int (gI v1))]) 3 rfl (by decide) rfl dX12_tiesTo_27 ?_
    refine V_goto (tgt := 4) dX12_tiesTo_30 (by decide) ?_
    exact V_sub [2, 3, 1, 0] rfl h
theorem eX12_tiesTo {X : Cx} {v1 : Int} {σ : Sg} {Q : Int → Sg → Prop} (h : GX12_tiesTo_0 X v1 σ Q) : KX12_tiesTo X v1 σ Q := V_enter (by decide) (Nat.le_of_ble_eq_true rfl) rfl h
def GX12_areAlike_0 (X : Cx) (v1 : Int) (v2 : Int) (σ : Sg) (Q : Int → Sg → Prop) : Prop := VV X mX12_areAlike 0 [(0, .ref (cxA X 69)), (1, .int (gI v1)), (2, .int (gI v2))] [] σ Q
def GX12_areAlike_20 (X : Cx) (v1 : Int) (v2 : Int) (s0 : Int) (σ : Sg) (Q : Int → Sg → Prop) : Prop := VV X mX12_areAlike 20 [(0, .ref (cxA X 69)), (1, .int (gI v1)), (2, .int (gI v2))] [.int (gI s0)] σ Q
def GX12_areAlike_24 (X : Cx) (v1 : Int) (v2 : Int) (v3 : Int) (v4 : Int) (σ : Sg) (Q : Int → Sg → Prop) : Prop := VV X mX12_areAlike 24 [(0, .ref (cxA X 69)), (1, .int (gI v1)), (2, .int (gI v2)), (3, .int (gI v3)), (4, .int (gI v4))] [] σ Q
def GX12_areAlike_118 (X : Cx) (v1 : Int) (v2 : Int) (v3 : Int) (v4 : Int) (σ : Sg) (Q : Int → Sg → Prop) : Prop := VV X mX12_areAlike 118 [(0, .ref (cxA X 69)), (1, .int (gI v1)), (2, .int (gI v2)), (3, .int (gI v3)), (4, .int (gI v4))] [] σ Q
def GX12_areAlike_119 (X : Cx) (v1 : Int) (v2 : Int) (v3 : Int) (v4 : Int) (s0 : Int) (σ : Sg) (Q : Int → Sg → Prop) : Prop := VV X mX12_areAlike 119 [(0, .ref (cxA X 69)), (1, .int (gI v1)), (2, .int (gI v2)), (3, .int (gI v3)), (4, .int (gI v4))] [.int (gI s0)] σ Q
set_option maxHeartbeats 2000000 in
set_option maxRecDepth 20000 in
theorem rX12_areAlike_0 {X : Cx} {v1 : Int} {v2 : Int} {σ : Sg} {Q : Int → Sg → Prop} (h : Rng σ → (0 ≤ v1 ∧ v1 < 8) ∧ (0 ≤ v2 ∧ v2 < 8) ∧ ((¬ (σ 91 v1.toNat) = (σ 91 v2.toNat) → GX12_areAlike_20 X v1 v2 0 σ Q) ∧ ((σ 91 v1.toNat) = (σ 91 v2.toNat) → GX12_areAlike_20 X v1 v2 1 σ Q))) : GX12_areAlike_0 X v1 v2 σ Q := by
  unfold GX12_areAlike_0
  refine V_rng (fun hR0 => ?_)
  have h := h hR0
  refine V_aload_n 0 rfl rfl dX12_areAlike_0 ?_
  refine V_getR (f := 31) ci_X12 sh_69 rfl (by decide) (c1 := 91) rfl dX12_areAlike_1 lk_RX12_f74 ?_
  refine V_iload_n 1 rfl rfl dX12_areAlike_4 ?_
  obtain ⟨g1, h⟩ := h
  refine V_iald sh_91 (by decide) g1 dX12_areAlike_5 ?_
  refine V_aload_n 0 rfl rfl dX12_areAlike_6 ?_
  refine V_getR (f := 31) ci_X12 sh_69 rfl (by decide) (c1 := 91) rfl dX12_areAlike_7 lk_RX12_f74 ?_
  refine V_iload_n 2 rfl rfl dX12_areAlike_10 ?_
  obtain ⟨g2, h⟩ := h
  refine V_iald sh_91 (by decide) g2 dX12_areAlike_11 ?_
  refine V_icmp_ne (tgt := 19) dX12_areAlike_12 (by decide) (show inI (σ 91 v1.toNat) from (inI_sh hR0 sh_91 (by decide))) (show inI (σ 91 v2.toNat) from (inI_sh hR0 sh_91 (by decide))) (fun q3 => ?_) (fun q3 => ?_)
  · have h := h.1 q3
    refine V_iconst dX12_areAlike_19 ?_
    exact h
  · have h := h.2 q3
    refine V_iconst dX12_areAlike_15 ?_
    refine V_goto (tgt := 20) dX12_areAlike_16 (by decide) ?_
    exact h
set_option maxHeartbeats 2000000 in
set_option maxRecDepth 20000 in
theorem rX12_areAlike_20 {X : Cx} {v1 : Int} {v2 : Int} {s0 : Int} {σ : Sg} {Q : Int → Sg → Prop} (h : Rng σ → GX12_areAlike_24 X v1 v2 s0 0 σ Q) : GX12_areAlike_20 X v1 v2 s0 σ Q := by
  unfold GX12_areAlike_20
  refine V_rng (fun hR0 => ?_)
  have h := h hR0
  refine V_istore_n (L' := [(3, .int (gI s0)), (0, .ref (cxA X 69)), (1, .int (gI v1)), (2, .int (gI v2))]) rfl (by decide) rfl dX12_areAlike_20 ?_
  refine V_iconst dX12_areAlike_21 ?_
  refine V_istore (L' := [(4, .int (gI 0)), (3, .int (gI s0)), (0, .ref (cxA X 69)), (1, .int (gI v1)), (2, .int (gI v2))]) (by decide) rfl dX12_areAlike_22 ?_
  exact V_sub [2, 3, 4, 1, 0] rfl h
set_option maxHeartbeats 2000000 in
set_option maxRecDepth 20000 in
theorem rX12_areAlike_24 {X : Cx} {v1 : Int} {v2 : Int} {v3 : Int} {v4 : Int} {σ : Sg} {Q : Int → Sg → Prop} (h : Rng σ → (inI v4) ∧ (((σ 69 0) ≤ v4 → (v3 = 0 ∨ v3 = 1) ∧ Q v3 σ) ∧ (v4 < (σ 69 0) → (inI v3) ∧ ((v3 = 0 → (v3 = 0 ∨ v3 = 1) ∧ Q v3 σ) ∧ (¬ v3 = 0 → KX12_besides X v1 σ (fun r7 σ8 => Rng σ8 → KX12_howMany X r7 v4 σ8 (fun r10 σ11 => Rng σ11 → KX12_besides X v2 σ11 (fun r13 σ14 => Rng σ14 → KX12_howMany X r13 v4 σ14 (fun r16 σ17 => Rng σ17 → (inI r10) ∧ (inI r16) ∧ ((¬ r10 = r16 → GX12_areAlike_118 X v1 v2 v3 v4 σ17 Q) ∧ (r10 = r16 → (0 ≤ v1 ∧ v1 < 8) ∧ KX12_howMany X (σ17 75 v1.toNat) v4 σ17 (fun r23 σ24 => Rng σ24 → (0 ≤ v2 ∧ v2 < 8) ∧ KX12_howMany X (σ24 75 v2.toNat) v4 σ24 (fun r27 σ28 => Rng σ28 → (inI r23) ∧ (inI r27) ∧ ((¬ r23 = r27 → GX12_areAlike_118 X v1 v2 v3 v4 σ28 Q) ∧ (r23 = r27 → KX12_tiesTo X v1 σ28 (fun r33 σ34 => Rng σ34 → KX12_howMany X r33 v4 σ34 (fun r36 σ37 => Rng σ37 → KX12_tiesTo X v2 σ37 (fun r39 σ40 => Rng σ40 → KX12_howMany X r39 v4 σ40 (fun r42 σ43 => Rng σ43 → (inI r36) ∧ (inI r42) ∧ ((¬ r36 = r42 → GX12_areAlike_118 X v1 v2 v3 v4 σ43 Q) ∧ (r36 = r42 → GX12_areAlike_119 X v1 v2 v3 v4 1 σ43 Q))))))))))))))))))))) : GX12_areAlike_24 X v1 v2 v3 v4 σ Q := by
  unfold GX12_areAlike_24
  refine V_rng (fun hR0 => ?_)
  have h := h hR0
  refine V_iload 4 rfl dX12_areAlike_24 ?_
  refine V_aload_n 0 rfl rfl dX12_areAlike_26 ?_
  refine V_getI (f := 0) ci_X12 sh_69 rfl (by decide) dX12_areAlike_27 lk_RX12_f98 ?_
  obtain ⟨g1, h⟩ := h
  refine V_icmp_ge (tgt := 126) dX12_areAlike_30 (by decide) g1 (show inI (σ 69 0) from (hR0.1 69 0 (by decide))) (fun q2 => ?_) (fun q2 => ?_)
  · have h := h.1 q2
    refine V_iload_n 3 rfl rfl dX12_areAlike_126 ?_
    obtain ⟨g3, h⟩ := h
    exact V_iret rfl (fun _ q => by cases q) (nar_Z g3).1 dX12_areAlike_127 h
  · have h := h.2 q2
    refine V_iload_n 3 rfl rfl dX12_areAlike_33 ?_
    obtain ⟨g4, h⟩ := h
    refine V_if_eq (tgt := 126) dX12_areAlike_34 (by decide) g4 (fun q5 => ?_) (fun q5 => ?_)
    · have h := h.1 q5
      refine V_iload_n 3 rfl rfl dX12_areAlike_126 ?_
      obtain ⟨g6, h⟩ := h
      exact V_iret rfl (fun _ q => by cases q) (nar_Z g6).1 dX12_areAlike_127 h
    · have h := h.2 q5
      refine V_aload_n 0 rfl rfl dX12_areAlike_37 ?_
      refine V_aload_n 0 rfl rfl dX12_areAlike_38 ?_
      refine V_iload_n 1 rfl rfl dX12_areAlike_39 ?_
      refine V_cV (M' := mX12_besides) (As := [.int (gI v1)]) (fun r => [.int (gI r), .ref (cxA X 69)]) ok_X12_besides ok2_X12_besides sh_69 rfl (by decide) rfl rfl (Nat.le_of_ble_eq_true rfl) dX12_areAlike_40 lk_RX12_m118 (by decide) (fun _ => rfl) h (fun r7 σ8 h => ?_)
      refine V_rng (fun hR9 => ?_)
      have h := h hR9
      refine V_iload 4 rfl dX12_areAlike_43 ?_
      refine V_cV (M' := mX12_howMany) (As := [.int (gI r7), .int (gI v4)]) (fun r => [.int (gI r)]) ok_X12_howMany ok2_X12_howMany sh_69 rfl (by decide) rfl rfl (Nat.le_of_ble_eq_true rfl) dX12_areAlike_45 lk_RX12_m255 (by decide) (fun _ => rfl) h (fun r10 σ11 h => ?_)
      refine V_rng (fun hR12 => ?_)
      have h := h hR12
      refine V_aload_n 0 rfl rfl dX12_areAlike_48 ?_
      refine V_aload_n 0 rfl rfl dX12_areAlike_49 ?_
      refine V_iload_n 2 rfl rfl dX12_areAlike_50 ?_
      refine V_cV (M' := mX12_besides) (As := [.int (gI v2)]) (fun r => [.int (gI r), .ref (cxA X 69), .int (gI r10)]) ok_X12_besides ok2_X12_besides sh_69 rfl (by decide) rfl rfl (Nat.le_of_ble_eq_true rfl) dX12_areAlike_51 lk_RX12_m118 (by decide) (fun _ => rfl) h (fun r13 σ14 h => ?_)
      refine V_rng (fun hR15 => ?_)
      have h := h hR15
      refine V_iload 4 rfl dX12_areAlike_54 ?_
      refine V_cV (M' := mX12_howMany) (As := [.int (gI r13), .int (gI v4)]) (fun r => [.int (gI r), .int (gI r10)]) ok_X12_howMany ok2_X12_howMany sh_69 rfl (by decide) rfl rfl (Nat.le_of_ble_eq_true rfl) dX12_areAlike_56 lk_RX12_m255 (by decide) (fun _ => rfl) h (fun r16 σ17 h => ?_)
      refine V_rng (fun hR18 => ?_)
      have h := h hR18
      obtain ⟨g19, h⟩ := h
      obtain ⟨g20, h⟩ := h
      refine V_icmp_ne (tgt := 118) dX12_areAlike_59 (by decide) g19 g20 (fun q21 => ?_) (fun q21 => ?_)
      · have h := h.1 q21
        exact h
      · have h := h.2 q21
        refine V_aload_n 0 rfl rfl dX12_areAlike_62 ?_
        refine V_aload_n 0 rfl rfl dX12_areAlike_63 ?_
        refine V_getR (f := 6) ci_X12 sh_69 rfl (by decide) (c1 := 75) rfl dX12_areAlike_64 lk_RX12_f25 ?_
        refine V_iload_n 1 rfl rfl dX12_areAlike_67 ?_
        obtain ⟨g22, h⟩ := h
        refine V_iald sh_75 (by decide) g22 dX12_areAlike_68 ?_
        refine V_iload 4 rfl dX12_areAlike_69 ?_
        refine V_cV (M' := mX12_howMany) (As := [.int (gI (σ17 75 v1.toNat)), .int (gI v4)]) (fun r => [.int (gI r)]) ok_X12_howMany ok2_X12_howMany sh_69 rfl (by decide) rfl rfl (Nat.le_of_ble_eq_true rfl) dX12_areAlike_71 lk_RX12_m255 (by decide) (fun _ => rfl) h (fun r23 σ24 h => ?_)
        refine V_rng (fun hR25 => ?_)
        have h := h hR25
        refine V_aload_n 0 rfl rfl dX12_areAlike_74 ?_
        refine V_aload_n 0 rfl rfl dX12_areAlike_75 ?_
        refine V_getR (f := 6) ci_X12 sh_69 rfl (by decide) (c1 := 75) rfl dX12_areAlike_76 lk_RX12_f25 ?_
        refine V_iload_n 2 rfl rfl dX12_areAlike_79 ?_
        obtain ⟨g26, h⟩ := h
        refine V_iald sh_75 (by decide) g26 dX12_areAlike_80 ?_
        refine V_iload 4 rfl dX12_areAlike_81 ?_
        refine V_cV (M' := mX12_howMany) (As := [.int (gI (σ24 75 v2.toNat)), .int (gI v4)]) (fun r => [.int (gI r), .int (gI r23)]) ok_X12_howMany ok2_X12_howMany sh_69 rfl (by decide) rfl rfl (Nat.le_of_ble_eq_true rfl) dX12_areAlike_83 lk_RX12_m255 (by decide) (fun _ => rfl) h (fun r27 σ28 h => ?_)
        refine V_rng (fun hR29 => ?_)
        have h := h hR29
        obtain ⟨g30, h⟩ := h
        obtain ⟨g31, h⟩ := h
        refine V_icmp_ne (tgt := 118) dX12_areAlike_86 (by decide) g30 g31 (fun q32 => ?_) (fun q32 => ?_)
        · have h := h.1 q32
          exact h
        · have h := h.2 q32
          refine V_aload_n 0 rfl rfl dX12_areAlike_89 ?_
          refine V_aload_n 0 rfl rfl dX12_areAlike_90 ?_
          refine V_iload_n 1 rfl rfl dX12_areAlike_91 ?_
          refine V_cV (M' := mX12_tiesTo) (As := [.int (gI v1)]) (fun r => [.int (gI r), .ref (cxA X 69)]) ok_X12_tiesTo ok2_X12_tiesTo sh_69 rfl (by decide) rfl rfl (Nat.le_of_ble_eq_true rfl) dX12_areAlike_92 lk_RX12_m258 (by decide) (fun _ => rfl) h (fun r33 σ34 h => ?_)
          refine V_rng (fun hR35 => ?_)
          have h := h hR35
          refine V_iload 4 rfl dX12_areAlike_95 ?_
          refine V_cV (M' := mX12_howMany) (As := [.int (gI r33), .int (gI v4)]) (fun r => [.int (gI r)]) ok_X12_howMany ok2_X12_howMany sh_69 rfl (by decide) rfl rfl (Nat.le_of_ble_eq_true rfl) dX12_areAlike_97 lk_RX12_m255 (by decide) (fun _ => rfl) h (fun r36 σ37 h => ?_)
          refine V_rng (fun hR38 => ?_)
          have h := h hR38
          refine V_aload_n 0 rfl rfl dX12_areAlike_100 ?_
          refine V_aload_n 0 rfl rfl dX12_areAlike_101 ?_
          refine V_iload_n 2 rfl rfl dX12_areAlike_102 ?_
          refine V_cV (M' := mX12_tiesTo) (As := [.int (gI v2)]) (fun r => [.int (gI r), .ref (cxA X 69), .int (gI r36)]) ok_X12_tiesTo ok2_X12_tiesTo sh_69 rfl (by decide) rfl rfl (Nat.le_of_ble_eq_true rfl) dX12_areAlike_103 lk_RX12_m258 (by decide) (fun _ => rfl) h (fun r39 σ40 h => ?_)
          refine V_rng (fun hR41 => ?_)
          have h := h hR41
          refine V_iload 4 rfl dX12_areAlike_106 ?_
          refine V_cV (M' := mX12_howMany) (As := [.int (gI r39), .int (gI v4)]) (fun r => [.int (gI r), .int (gI r36)]) ok_X12_howMany ok2_X12_howMany sh_69 rfl (by decide) rfl rfl (Nat.le_of_ble_eq_true rfl) dX12_areAlike_108 lk_RX12_m255 (by decide) (fun _ => rfl) h (fun r42 σ43 h => ?_)
          refine V_rng (fun hR44 => ?_)
          have h := h hR44
          obtain ⟨g45, h⟩ := h
          obtain ⟨g46, h⟩ := h
          refine V_icmp_ne (tgt := 118) dX12_areAlike_111 (by decide) g45 g46 (fun q47 => ?_) (fun q47 => ?_)
          · have h := h.1 q47
            exact h
          · have h := h.2 q47
            refine V_iconst dX12_areAlike_114 ?_
            refine V_goto (tgt := 119) dX12_areAlike_115 (by decide) ?_
            exact h
set_option maxHeartbeats 2000000 in
set_option maxRecDepth 20000 in
theorem rX12_areAlike_118 {X : Cx} {v1 : Int} {v2 : Int} {v3 : Int} {v4 : Int} {σ : Sg} {Q : Int → Sg → Prop} (h : Rng σ → GX12_areAlike_119 X v1 v2 v3 v4 0 σ Q) : GX12_areAlike_118 X v1 v2 v3 v4 σ Q := by
  unfold GX12_areAlike_118
  refine V_rng (fun hR0 => ?_)
  have h := h hR0
  refine V_iconst dX12_areAlike_118 ?_
  exact h
set_option maxHeartbeats 2000000 in
set_option maxRecDepth 20000 in
theorem rX12_areAlike_119 {X : Cx} {v1 : Int} {v2 : Int} {v3 : Int} {v4 : Int} {s0 : Int} {σ : Sg} {Q : Int → Sg → Prop} (h : Rng σ → GX12_areAlike_24 X v1 v2 s0 (v4 + 1) σ Q) : GX12_areAlike_119 X v1 v2 v3 v4 s0 σ Q := by
  unfold GX12_areAlike_119
  refine V_rng (fun hR0 => ?_)
  have h := h hR0
  refine V_istore_n (L' := [(3, .int (gI s0)), (0, .ref (cxA X 69)), (1, .int (gI v1)), (2, .int (gI v2)), (4, .int (gI v4))]) rfl (by decide) rfl dX12_areAlike_119 ?_
  refine V_iinc (L' := [(4, .int (gI (v4 + 1))), (3, .int (gI s0)), (0, .ref (cxA X 69)), (1, .int (gI v1)), (2, .int (gI v2))]) 4 rfl (by decide) rfl dX12_areAlike_120 ?_
  refine V_goto (tgt := 24) dX12_areAlike_123 (by decide) ?_
  exact V_sub [2, 3, 4, 1, 0] rfl h
theorem eX12_areAlike {X : Cx} {v1 : Int} {v2 : Int} {σ : Sg} {Q : Int → Sg → Prop} (h : GX12_areAlike_0 X v1 v2 σ Q) : KX12_areAlike X v1 v2 σ Q := V_enter (by decide) (Nat.le_of_ble_eq_true rfl) rfl h
def GX12_findTwins_0 (X : Cx) (σ : Sg) (Q : Int → Sg → Prop) : Prop := VV X mX12_findTwins 0 [(0, .ref (cxA X 69))] [] σ Q
def GX12_findTwins_2 (X : Cx) (v1 : Int) (σ : Sg) (Q : Int → Sg → Prop) : Prop := VV X mX12_findTwins 2 [(0, .ref (cxA X 69)), (1, .int (gI v1))] [] σ Q
def GX12_findTwins_28 (X : Cx) (v1 : Int) (v2 : Int) (σ : Sg) (Q : Int → Sg → Prop) : Prop := VV X mX12_findTwins 28 [(0, .ref (cxA X 69)), (1, .int (gI v1)), (2, .int (gI v2))] [] σ Q
def GX12_findTwins_86 (X : Cx) (v1 : Int) (v2 : Int) (s0 : Int) (σ : Sg) (Q : Int → Sg → Prop) : Prop := VV X mX12_findTwins 86 [(0, .ref (cxA X 69)), (1, .int (gI v1)), (2, .int (gI v2))] [.int (gI s0), .ref (cxA X 91)] σ Q
def GX12_findTwins_92 (X : Cx) (v1 : Int) (v2 : Int) (s0 : Int) (s1 : Int) (σ : Sg) (Q : Int → Sg → Prop) : Prop := VV X mX12_findTwins 92 [(0, .ref (cxA X 69)), (1, .int (gI v1)), (2, .int (gI v2))] [.int (gI s0), .int (gI s1), .ref (cxA X 91)] σ Q
def GX12_findTwins_109 (X : Cx) (v1 : Int) (v2 : Int) (σ : Sg) (Q : Int → Sg → Prop) : Prop := VV X mX12_findTwins 109 [(0, .ref (cxA X 69)), (1, .int (gI v1)), (2, .int (gI v2))] [] σ Q
def GX12_findTwins_117 (X : Cx) (v1 : Int) (v2 : Int) (v3 : Int) (σ : Sg) (Q : Int → Sg → Prop) : Prop := VV X mX12_findTwins 117 [(0, .ref (cxA X 69)), (1, .int (gI v1)), (2, .int (gI v2)), (3, .int (gI v3))] [] σ Q
def GX12_findTwins_137 (X : Cx) (v1 : Int) (v2 : Int) (v3 : Int) (v4 : Int) (σ : Sg) (Q : Int → Sg → Prop) : Prop := VV X mX12_findTwins 137 [(0, .ref (cxA X 69)), (1, .int (gI v1)), (2, .int (gI v2)), (3, .int (gI v3)), (4, .int (gI v4))] [] σ Q
def GX12_findTwins_168 (X : Cx) (v1 : Int) (v2 : Int) (v3 : Int) (v4 : Int) (s0 : Int) (s1 : Int) (σ : Sg) (Q : Int → Sg → Prop) : Prop := VV X mX12_findTwins 168 [(0, .ref (cxA X 69)), (1, .int (gI v1)), (2, .int (gI v2)), (3, .int (gI v3)), (4, .int (gI v4))] [.int (gI s0), .int (gI s1), .ref (cxA X 92)] σ Q
def GX12_findTwins_183 (X : Cx) (v1 : Int) (v2 : Int) (v3 : Int) (σ : Sg) (Q : Int → Sg → Prop) : Prop := VV X mX12_findTwins 183 [(0, .ref (cxA X 69)), (1, .int (gI v1)), (2, .int (gI v2)), (3, .int (gI v3))] [] σ Q
def GX12_findTwins_197 (X : Cx) (v1 : Int) (v2 : Int) (v3 : Int) (v4 : Int) (v5 : Int) (σ : Sg) (Q : Int → Sg → Prop) : Prop := VV X mX12_findTwins 197 [(0, .ref (cxA X 69)), (1, .int (gI v1)), (2, .int (gI v2)), (3, .int (gI v3)), (4, .int (gI v4)), (5, .int (gI v5))] [] σ Q
def GX12_findTwins_243 (X : Cx) (v1 : Int) (v2 : Int) (v3 : Int) (v4 : Int) (v5 : Int) (σ : Sg) (Q : Int → Sg → Prop) : Prop := VV X mX12_findTwins 243 [(0, .ref (cxA X 69)), (1, .int (gI v1)), (2, .int (gI v2)), (3, .int (gI v3)), (4, .int (gI v4)), (5, .int (gI v5))] [] σ Q
def GX12_findTwins_247 (X : Cx) (v1 : Int) (v2 : Int) (v3 : Int) (v4 : Int) (v5 : Int) (σ : Sg) (Q : Int → Sg → Prop) : Prop := VV X mX12_findTwins 247 [(0, .ref (cxA X 69)), (1, .int (gI v1)), (2, .int (gI v2)), (3, .int (gI v3)), (4, .int (gI v4)), (5, .int (gI v5))] [] σ Q
def GX12_findTwins_248 (X : Cx) (v1 : Int) (v2 : Int) (v3 : Int) (v4 : Int) (v5 : Int) (s0 : Int) (σ : Sg) (Q : Int → Sg → Prop) : Prop := VV X mX12_findTwins 248 [(0, .ref (cxA X 69)), (1, .int (gI v1)), (2, .int (gI v2)), (3, .int (gI v3)), (4, .int (gI v4)), (5, .int (gI v5))] [.int (gI s0)] σ Q
def GX12_findTwins_276 (X : Cx) (v1 : Int) (v2 : Int) (v3 : Int) (v4 : Int) (v5 : Int) (s0 : Int) (s1 : Int) (σ : Sg) (Q : Int → Sg → Prop) : Prop := VV X mX12_findTwins 276 [(0, .ref (cxA X 69)), (1, .int (gI v1)), (2, .int (gI v2)), (3, .int (gI v3)), (4, .int (gI v4)), (5, .int (gI v5))] [.int (gI s0), .int (gI s1), .ref (cxA X 93)] σ Q
def GX12_findTwins_286 (X : Cx) (v1 : Int) (v2 : Int) (v3 : Int) (v4 : Int) (v5 : Int) (σ : Sg) (Q : Int → Sg → Prop) : Prop := VV X mX12_findTwins 286 [(0, .ref (cxA X 69)), (1, .int (gI v1)), (2, .int (gI v2)), (3, .int (gI v3)), (4, .int (gI v4)), (5, .int (gI v5))] [] σ Q
def GX12_findTwins_291 (X : Cx) (v1 : Int) (v2 : Int) (v3 : Int) (v4 : Int) (v5 : Int) (s0 : Int) (σ : Sg) (Q : Int → Sg → Prop) : Prop := VV X mX12_findTwins 291 [(0, .ref (cxA X 69)), (1, .int (gI v1)), (2, .int (gI v2)), (3, .int (gI v3)), (4, .int (gI v4)), (5, .int (gI v5))] [.int (gI s0)] σ Q
def GX12_findTwins_300 (X : Cx) (v1 : Int) (v2 : Int) (v3 : Int) (σ : Sg) (Q : Int → Sg → Prop) : Prop := VV X mX12_findTwins 300 [(0, .ref (cxA X 69)), (1, .int (gI v1)), (2, .int (gI v2)), (3, .int (gI v3))] [] σ Q
set_option maxHeartbeats 2000000 in
set_option maxRecDepth 20000 in
theorem rX12_findTwins_0 {X : Cx} {σ : Sg} {Q : Int → Sg → Prop} (h : Rng σ → GX12_findTwins_2 X 0 σ Q) : GX12_findTwins_0 X σ Q := by
  unfold GX12_findTwins_0
  refine V_rng (fun hR0 => ?_)
  have h := h hR0
  refine V_iconst dX12_findTwins_0 ?_
  refine V_istore_n (L' := [(1, .int (gI 0)), (0, .ref (cxA X 69))]) rfl (by decide) rfl dX12_findTwins_1 ?_
  exact V_sub [1, 0] rfl h
set_option maxHeartbeats 2000000 in
set_option maxRecDepth 20000 in
theorem rX12_findTwins_2 {X : Cx} {v1 : Int} {σ : Sg} {Q : Int → Sg → Prop} (h : Rng σ → (inI v1) ∧ (((σ 69 0) ≤ v1 → GX12_findTwins_109 X 1 1 σ Q) ∧ (v1 < (σ 69 0) → (0 ≤ v1 ∧ v1 < 8) ∧ (inI v1) ∧ (0 ≤ v1 ∧ v1 < 8) ∧ GX12_findTwins_28 X v1 (v1 - 1) (up2 (up2 σ 91 v1.toNat v1) 93 v1.toNat 0) Q))) : GX12_findTwins_2 X v1 σ Q := by
  unfold GX12_findTwins_2
  refine V_rng (fun hR0 => ?_)
  have h := h hR0
  refine V_iload_n 1 rfl rfl dX12_findTwins_2 ?_
  refine V_aload_n 0 rfl rfl dX12_findTwins_3 ?_
  refine V_getI (f := 0) ci_X12 sh_69 rfl (by decide) dX12_findTwins_4 lk_RX12_f98 ?_
  obtain ⟨g1, h⟩ := h
  refine V_icmp_ge (tgt := 105) dX12_findTwins_7 (by decide) g1 (show inI (σ 69 0) from (hR0.1 69 0 (by decide))) (fun q2 => ?_) (fun q2 => ?_)
  · have h := h.1 q2
    refine V_iconst dX12_findTwins_105 ?_
    refine V_istore_n (L' := [(1, .int (gI 1)), (0, .ref (cxA X 69))]) rfl (by decide) rfl dX12_findTwins_106 ?_
    refine V_iconst dX12_findTwins_107 ?_
    refine V_istore_n (L' := [(2, .int (gI 1)), (1, .int (gI 1)), (0, .ref (cxA X 69))]) rfl (by decide) rfl dX12_findTwins_108 ?_
    exact V_sub [2, 1, 0] rfl h
  · have h := h.2 q2
    refine V_aload_n 0 rfl rfl dX12_findTwins_10 ?_
    refine V_getR (f := 31) ci_X12 sh_69 rfl (by decide) (c1 := 91) rfl dX12_findTwins_11 lk_RX12_f74 ?_
    refine V_iload_n 1 rfl rfl dX12_findTwins_14 ?_
    refine V_iload_n 1 rfl rfl dX12_findTwins_15 ?_
    obtain ⟨g3, h⟩ := h
    obtain ⟨g4, h⟩ := h
    refine V_iast sh_91 (by decide) g3 g4 dX12_findTwins_16 ?_
    refine V_aload_n 0 rfl rfl dX12_findTwins_17 ?_
    refine V_getR (f := 33) ci_X12 sh_69 rfl (by decide) (c1 := 93) rfl dX12_findTwins_18 lk_RX12_f80 ?_
    refine V_iload_n 1 rfl rfl dX12_findTwins_21 ?_
    refine V_iconst dX12_findTwins_22 ?_
    obtain ⟨g5, h⟩ := h
    refine V_iast sh_93 (by decide) g5 (by decide) dX12_findTwins_23 ?_
    refine V_iload_n 1 rfl rfl dX12_findTwins_24 ?_
    refine V_iconst dX12_findTwins_25 ?_
    refine V_isub dX12_findTwins_26 ?_
    refine V_istore_n (L' := [(2, .int (gI (v1 - 1))), (0, .ref (cxA X 69)), (1, .int (gI v1))]) rfl (by decide) rfl dX12_findTwins_27 ?_
    exact V_sub [1, 2, 0] rfl h
set_option maxHeartbeats 2000000 in
set_option maxRecDepth 20000 in
theorem rX12_findTwins_28 {X : Cx} {v1 : Int} {v2 : Int} {σ : Sg} {Q : Int → Sg → Prop} (h : Rng σ → (inI v2) ∧ ((v2 < 0 → GX12_findTwins_2 X (v1 + 1) σ Q) ∧ (0 ≤ v2 → (0 ≤ v2 ∧ v2 < 8) ∧ (0 ≤ v1 ∧ v1 < 8) ∧ ((¬ (σ 70 v2.toNat) = (σ 70 v1.toNat) → GX12_findTwins_86 X v1 v2 v1 σ Q) ∧ ((σ 70 v2.toNat) = (σ 70 v1.toNat) → (0 ≤ v2 ∧ v2 < 8) ∧ (0 ≤ v1 ∧ v1 < 8) ∧ ((¬ (σ 71 v2.toNat) = (σ 71 v1.toNat) → GX12_findTwins_86 X v1 v2 v1 σ Q) ∧ ((σ 71 v2.toNat) = (σ 71 v1.toNat) → (0 ≤ v2 ∧ v2 < 8) ∧ (0 ≤ v1 ∧ v1 < 8) ∧ ((¬ (σ 73 v2.toNat) = (σ 73 v1.toNat) → GX12_findTwins_86 X v1 v2 v1 σ Q) ∧ ((σ 73 v2.toNat) = (σ 73 v1.toNat) → GX12_findTwins_92 X v1 v2 v2 v1 σ Q))))))))) : GX12_findTwins_28 X v1 v2 σ Q := by
  unfold GX12_findTwins_28
  refine V_rng (fun hR0 => ?_)
  have h := h hR0
  refine V_iload_n 2 rfl rfl dX12_findTwins_28 ?_
  obtain ⟨g1, h⟩ := h
  refine V_if_lt (tgt := 99) dX12_findTwins_29 (by decide) g1 (fun q2 => ?_) (fun q2 => ?_)
  · have h := h.1 q2
    refine V_iinc (L' := [(1, .int (gI (v1 + 1))), (0, .ref (cxA X 69)), (2, .int (gI v2))]) 1 rfl (by decide) rfl dX12_findTwins_99 ?_
    refine V_goto (tgt := 2) dX12_findTwins_102 (by decide) ?_
    exact V_sub [1, 0] rfl h
  · have h := h.2 q2
    refine V_aload_n 0 rfl rfl dX12_findTwins_32 ?_
    refine V_getR (f := 31) ci_X12 sh_69 rfl (by decide) (c1 := 91) rfl dX12_findTwins_33 lk_RX12_f74 ?_
    refine V_iload_n 1 rfl rfl dX12_findTwins_36 ?_
    refine V_aload_n 0 rfl rfl dX12_findTwins_37 ?_
    refine V_getR (f := 1) ci_X12 sh_69 rfl (by decide) (c1 := 70) rfl dX12_findTwins_38 lk_RX12_f7 ?_
    refine V_iload_n 2 rfl rfl dX12_findTwins_41 ?_
    obtain ⟨g3, h⟩ := h
    refine V_iald sh_70 (by decide) g3 dX12_findTwins_42 ?_
    refine V_aload_n 0 rfl rfl dX12_findTwins_43 ?_
    refine V_getR (f := 1) ci_X12 sh_69 rfl (by decide) (c1 := 70) rfl dX12_findTwins_44 lk_RX12_f7 ?_
    refine V_iload_n 1 rfl rfl dX12_findTwins_47 ?_
    obtain ⟨g4, h⟩ := h
    refine V_iald sh_70 (by decide) g4 dX12_findTwins_48 ?_
    refine V_icmp_ne (tgt := 86) dX12_findTwins_49 (by decide) (show inI (σ 70 v2.toNat) from (inI_sh hR0 sh_70 (by decide))) (show inI (σ 70 v1.toNat) from (inI_sh hR0 sh_70 (by decide))) (fun q5 => ?_) (fun q5 => ?_)
    · have h := h.1 q5
      exact h
    · have h := h.2 q5
      refine V_aload_n 0 rfl rfl dX12_findTwins_52 ?_
      refine V_getR (f := 2) ci_X12 sh_69 rfl (by decide) (c1 := 71) rfl dX12_findTwins_53 lk_RX12_f13 ?_
      refine V_iload_n 2 rfl rfl dX12_findTwins_56 ?_
      obtain ⟨g6, h⟩ := h
      refine V_iald sh_71 (by decide) g6 dX12_findTwins_57 ?_
      refine V_aload_n 0 rfl rfl dX12_findTwins_58 ?_
      refine V_getR (f := 2) ci_X12 sh_69 rfl (by decide) (c1 := 71) rfl dX12_findTwins_59 lk_RX12_f13 ?_
      refine V_iload_n 1 rfl rfl dX12_findTwins_62 ?_
      obtain ⟨g7, h⟩ := h
      refine V_iald sh_71 (by decide) g7 dX12_findTwins_63 ?_
      refine V_icmp_ne (tgt := 86) dX12_findTwins_64 (by decide) (show inI (σ 71 v2.toNat) from (inI_sh hR0 sh_71 (by decide))) (show inI (σ 71 v1.toNat) from (inI_sh hR0 sh_71 (by decide))) (fun q8 => ?_) (fun q8 => ?_)
      · have h := h.1 q8
        exact h
      · have h := h.2 q8
        refine V_aload_n 0 rfl rfl dX12_findTwins_67 ?_
        refine V_getR (f := 4) ci_X12 sh_69 rfl (by decide) (c1 := 73) rfl dX12_findTwins_68 lk_RX12_f19 ?_
        refine V_iload_n 2 rfl rfl dX12_findTwins_71 ?_
        obtain ⟨g9, h⟩ := h
        refine V_iald sh_73 (by decide) g9 dX12_findTwins_72 ?_
        refine V_aload_n 0 rfl rfl dX12_findTwins_73 ?_
        refine V_getR (f := 4) ci_X12 sh_69 rfl (by decide) (c1 := 73) rfl dX12_findTwins_74 lk_RX12_f19 ?_
        refine V_iload_n 1 rfl rfl dX12_findTwins_77 ?_
        obtain ⟨g10, h⟩ := h
        refine V_iald sh_73 (by decide) g10 dX12_findTwins_78 ?_
        refine V_icmp_ne (tgt := 86) dX12_findTwins_79 (by decide) (show inI (σ 73 v2.toNat) from (inI_sh hR0 sh_73 (by decide))) (show inI (σ 73 v1.toNat) from (inI_sh hR0 sh_73 (by decide))) (fun q11 => ?_) (fun q11 => ?_)
        · have h := h.1 q11
          exact h
        · have h := h.2 q11
          refine V_iload_n 2 rfl rfl dX12_findTwins_82 ?_
          refine V_goto (tgt := 92) dX12_findTwins_83 (by decide) ?_
          exact h
set_option maxHeartbeats 2000000 in
set_option maxRecDepth 20000 in
theorem rX12_findTwins_86 {X : Cx} {v1 : Int} {v2 : Int} {s0 : Int} {σ : Sg} {Q : Int → Sg → Prop} (h : Rng σ → (0 ≤ v1 ∧ v1 < 8) ∧ GX12_findTwins_92 X v1 v2 (σ 91 v1.toNat) s0 σ Q) : GX12_findTwins_86 X v1 v2 s0 σ Q := by
  unfold GX12_findTwins_86
  refine V_rng (fun hR0 => ?_)
  have h := h hR0
  refine V_aload_n 0 rfl rfl dX12_findTwins_86 ?_
  refine V_getR (f := 31) ci_X12 sh_69 rfl (by decide) (c1 := 91) rfl dX12_findTwins_87 lk_RX12_f74 ?_
  refine V_iload_n 1 rfl rfl dX12_findTwins_90 ?_
  obtain ⟨g1, h⟩ := h
  refine V_iald sh_91 (by decide) g1 dX12_findTwins_91 ?_
  exact h
set_option maxHeartbeats 2000000 in
set_option maxRecDepth 20000 in
theorem rX12_findTwins_92 {X : Cx} {v1 : Int} {v2 : Int} {s0 : Int} {s1 : Int} {σ : Sg} {Q : Int → Sg → Prop} (h : Rng σ → (0 ≤ s1 ∧ s1 < 8) ∧ (inI s0) ∧ GX12_findTwins_28 X v1 (v2 + (-1)) (up2 σ 91 s1.toNat s0) Q) : GX12_findTwins_92 X v1 v2 s0 s1 σ Q := by
  unfold GX12_findTwins_92
  refine V_rng (fun hR0 => ?_)
  have h := h hR0
  obtain ⟨g1, h⟩ := h
  obtain ⟨g2, h⟩ := h
  refine V_iast sh_91 (by decide) g1 g2 dX12_findTwins_92 ?_
  refine V_iinc (L' := [(2, .int (gI (v2 + (-1)))), (0, .ref (cxA X 69)), (1, .int (gI v1))]) 2 rfl (by decide) rfl dX12_findTwins_93 ?_
  refine V_goto (tgt := 28) dX12_findTwins_96 (by decide) ?_
  exact V_sub [1, 2, 0] rfl h
set_option maxHeartbeats 2000000 in
set_option maxRecDepth 20000 in
theorem rX12_findTwins_109 {X : Cx} {v1 : Int} {v2 : Int} {σ : Sg} {Q : Int → Sg → Prop} (h : Rng σ → (inI v1) ∧ ((v1 = 0 → Q 0 σ) ∧ (¬ v1 = 0 → GX12_findTwins_117 X 0 v2 0 σ Q))) : GX12_findTwins_109 X v1 v2 σ Q := by
  unfold GX12_findTwins_109
  refine V_rng (fun hR0 => ?_)
  have h := h hR0
  refine V_iload_n 1 rfl rfl dX12_findTwins_109 ?_
  obtain ⟨g1, h⟩ := h
  refine V_if_eq (tgt := 332) dX12_findTwins_110 (by decide) g1 (fun q2 => ?_) (fun q2 => ?_)
  · have h := h.1 q2
    exact V_vret rfl dX12_findTwins_332 h
  · have h := h.2 q2
    refine V_iconst dX12_findTwins_113 ?_
    refine V_istore_n (L' := [(1, .int (gI 0)), (0, .ref (cxA X 69)), (2, .int (gI v2))]) rfl (by decide) rfl dX12_findTwins_114 ?_
    refine V_iconst dX12_findTwins_115 ?_
    refine V_istore_n (L' := [(3, .int (gI 0)), (1, .int (gI 0)), (0, .ref (cxA X 69)), (2, .int (gI v2))]) rfl (by decide) rfl dX12_findTwins_116 ?_
    exact V_sub [2, 1, 3, 0] rfl h
set_option maxHeartbeats 2000000 in
set_option maxRecDepth 20000 in
theorem rX12_findTwins_117 {X : Cx} {v1 : Int} {v2 : Int} {v3 : Int} {σ : Sg} {Q : Int → Sg → Prop} (h : Rng σ → (inI v3) ∧ (((σ 69 0) ≤ v3 → GX12_findTwins_183 X v1 v2 0 σ Q) ∧ (v3 < (σ 69 0) → (0 ≤ v3 ∧ v3 < 8) ∧ (inI v3) ∧ GX12_findTwins_137 X v1 v2 v3 (v3 - 1) (up2 σ 92 v3.toNat v3) Q))) : GX12_findTwins_117 X v1 v2 v3 σ Q := by
  unfold GX12_findTwins_117
  refine V_rng (fun hR0 => ?_)
  have h := h hR0
  refine V_iload_n 3 rfl rfl dX12_findTwins_117 ?_
  refine V_aload_n 0 rfl rfl dX12_findTwins_118 ?_
  refine V_getI (f := 0) ci_X12 sh_69 rfl (by decide) dX12_findTwins_119 lk_RX12_f98 ?_
  obtain ⟨g1, h⟩ := h
  refine V_icmp_ge (tgt := 181) dX12_findTwins_122 (by decide) g1 (show inI (σ 69 0) from (hR0.1 69 0 (by decide))) (fun q2 => ?_) (fun q2 => ?_)
  · have h := h.1 q2
    refine V_iconst dX12_findTwins_181 ?_
    refine V_istore_n (L' := [(3, .int (gI 0)), (0, .ref (cxA X 69)), (1, .int (gI v1)), (2, .int (gI v2))]) rfl (by decide) rfl dX12_findTwins_182 ?_
    exact V_sub [1, 2, 3, 0] rfl h
  · have h := h.2 q2
    refine V_aload_n 0 rfl rfl dX12_findTwins_125 ?_
    refine V_getR (f := 32) ci_X12 sh_69 rfl (by decide) (c1 := 92) rfl dX12_findTwins_126 lk_RX12_f77 ?_
    refine V_iload_n 3 rfl rfl dX12_findTwins_129 ?_
    refine V_iload_n 3 rfl rfl dX12_findTwins_130 ?_
    obtain ⟨g3, h⟩ := h
    obtain ⟨g4, h⟩ := h
    refine V_iast sh_92 (by decide) g3 g4 dX12_findTwins_131 ?_
    refine V_iload_n 3 rfl rfl dX12_findTwins_132 ?_
    refine V_iconst dX12_findTwins_133 ?_
    refine V_isub dX12_findTwins_134 ?_
    refine V_istore (L' := [(4, .int (gI (v3 - 1))), (0, .ref (cxA X 69)), (1, .int (gI v1)), (2, .int (gI v2)), (3, .int (gI v3))]) (by decide) rfl dX12_findTwins_135 ?_
    exact V_sub [1, 2, 3, 4, 0] rfl h
set_option maxHeartbeats 2000000 in
set_option maxRecDepth 20000 in
theorem rX12_findTwins_137 {X : Cx} {v1 : Int} {v2 : Int} {v3 : Int} {v4 : Int} {σ : Sg} {Q : Int → Sg → Prop} (h : Rng σ → (inI v4) ∧ ((v4 < 0 → GX12_findTwins_117 X v1 v2 (v3 + 1) σ Q) ∧ (0 ≤ v4 → KX12_areAlike X v4 v3 σ (fun r3 σ4 => Rng σ4 → (inI r3) ∧ ((r3 = 0 → (0 ≤ v3 ∧ v3 < 8) ∧ GX12_findTwins_168 X v1 v2 v3 v4 (σ4 92 v3.toNat) v3 σ4 Q) ∧ (¬ r3 = 0 → GX12_findTwins_168 X v1 v2 v3 v4 v4 v3 σ4 Q)))))) : GX12_findTwins_137 X v1 v2 v3 v4 σ Q := by
  unfold GX12_findTwins_137
  refine V_rng (fun hR0 => ?_)
  have h := h hR0
  refine V_iload 4 rfl dX12_findTwins_137 ?_
  obtain ⟨g1, h⟩ := h
  refine V_if_lt (tgt := 175) dX12_findTwins_139 (by decide) g1 (fun q2 => ?_) (fun q2 => ?_)
  · have h := h.1 q2
    refine V_iinc (L' := [(3, .int (gI (v3 + 1))), (0, .ref (cxA X 69)), (1, .int (gI v1)), (2, .int (gI v2)), (4, .int (gI v4))]) 3 rfl (by decide) rfl dX12_findTwins_175 ?_
    refine V_goto (tgt := 117) dX12_findTwins_178 (by decide) ?_
    exact V_sub [1, 2, 3, 0] rfl h
  · have h := h.2 q2
    refine V_aload_n 0 rfl rfl dX12_findTwins_142 ?_
    refine V_getR (f := 32) ci_X12 sh_69 rfl (by decide) (c1 := 92) rfl dX12_findTwins_143 lk_RX12_f77 ?_
    refine V_iload_n 3 rfl rfl dX12_findTwins_146 ?_
    refine V_aload_n 0 rfl rfl dX12_findTwins_147 ?_
    refine V_iload 4 rfl dX12_findTwins_148 ?_
    refine V_iload_n 3 rfl rfl dX12_findTwins_150 ?_
    refine V_cV (M' := mX12_areAlike) (As := [.int (gI v4), .int (gI v3)]) (fun r => [.int (gI r), .int (gI v3), .ref (cxA X 92)]) ok_X12_areAlike ok2_X12_areAlike sh_69 rfl (by decide) rfl rfl (Nat.le_of_ble_eq_true rfl) dX12_findTwins_151 lk_RX12_m261 (by decide) (fun _ => rfl) h (fun r3 σ4 h => ?_)
    refine V_rng (fun hR5 => ?_)
    have h := h hR5
    obtain ⟨g6, h⟩ := h
    refine V_if_eq (tgt := 162) dX12_findTwins_154 (by decide) g6 (fun q7 => ?_) (fun q7 => ?_)
    · have h := h.1 q7
      refine V_aload_n 0 rfl rfl dX12_findTwins_162 ?_
      refine V_getR (f := 32) ci_X12 sh_69 rfl (by decide) (c1 := 92) rfl dX12_findTwins_163 lk_RX12_f77 ?_
      refine V_iload_n 3 rfl rfl dX12_findTwins_166 ?_
      obtain ⟨g8, h⟩ := h
      refine V_iald sh_92 (by decide) g8 dX12_findTwins_167 ?_
      exact h
    · have h := h.2 q7
      refine V_iload 4 rfl dX12_findTwins_157 ?_
      refine V_goto (tgt := 168) dX12_findTwins_159 (by decide) ?_
      exact h
set_option maxHeartbeats 2000000 in
set_option maxRecDepth 20000 in
theorem rX12_findTwins_168 {X : Cx} {v1 : Int} {v2 : Int} {v3 : Int} {v4 : Int} {s0 : Int} {s1 : Int} {σ : Sg} {Q : Int → Sg → Prop} (h : Rng σ → (0 ≤ s1 ∧ s1 < 8) ∧ (inI s0) ∧ GX12_findTwins_137 X v1 v2 v3 (v4 + (-1)) (up2 σ 92 s1.toNat s0) Q) : GX12_findTwins_168 X v1 v2 v3 v4 s0 s1 σ Q := by
  unfold GX12_findTwins_168
  refine V_rng (fun hR0 => ?_)
  have h := h hR0
  obtain ⟨g1, h⟩ := h
  obtain ⟨g2, h⟩ := h
  refine V_iast sh_92 (by decide) g1 g2 dX12_findTwins_168 ?_
  refine V_iinc (L' := [(4, .int (gI (v4 + (-1)))), (0, .ref (cxA X 69)), (1, .int (gI v1)), (2, .int (gI v2)), (3, .int (gI v3))]) 4 rfl (by decide) rfl dX12_findTwins_169 ?_
  refine V_goto (tgt := 137) dX12_findTwins_172 (by decide) ?_
  exact V_sub [1, 2, 3, 4, 0] rfl h
set_option maxHeartbeats 2000000 in
set_option maxRecDepth 20000 in
theorem rX12_findTwins_183 {X : Cx} {v1 : Int} {v2 : Int} {v3 : Int} {σ : Sg} {Q : Int → Sg → Prop} (h : Rng σ → (inI v3) ∧ (((σ 69 0) ≤ v3 → GX12_findTwins_300 X v1 v2 0 σ Q) ∧ (v3 < (σ 69 0) → GX12_findTwins_197 X v1 v2 v3 0 0 σ Q))) : GX12_findTwins_183 X v1 v2 v3 σ Q := by
  unfold GX12_findTwins_183
  refine V_rng (fun hR0 => ?_)
  have h := h hR0
  refine V_iload_n 3 rfl rfl dX12_findTwins_183 ?_
  refine V_aload_n 0 rfl rfl dX12_findTwins_184 ?_
  refine V_getI (f := 0) ci_X12 sh_69 rfl (by decide) dX12_findTwins_185 lk_RX12_f98 ?_
  obtain ⟨g1, h⟩ := h
  refine V_icmp_ge (tgt := 298) dX12_findTwins_188 (by decide) g1 (show inI (σ 69 0) from (hR0.1 69 0 (by decide))) (fun q2 => ?_) (fun q2 => ?_)
  · have h := h.1 q2
    refine V_iconst dX12_findTwins_298 ?_
    refine V_istore_n (L' := [(3, .int (gI 0)), (0, .ref (cxA X 69)), (1, .int (gI v1)), (2, .int (gI v2))]) rfl (by decide) rfl dX12_findTwins_299 ?_
    exact V_sub [1, 2, 3, 0] rfl h
  · have h := h.2 q2
    refine V_iconst dX12_findTwins_191 ?_
    refine V_istore (L' := [(4, .int (gI 0)), (0, .ref (cxA X 69)), (1, .int (gI v1)), (2, .int (gI v2)), (3, .int (gI v3))]) (by decide) rfl dX12_findTwins_192 ?_
    refine V_iconst dX12_findTwins_194 ?_
    refine V_istore (L' := [(5, .int (gI 0)), (4, .int (gI 0)), (0, .ref (cxA X 69)), (1, .int (gI v1)), (2, .int (gI v2)), (3, .int (gI v3))]) (by decide) rfl dX12_findTwins_195 ?_
    exact V_sub [2, 3, 4, 5, 1, 0] rfl h
set_option maxHeartbeats 2000000 in
set_option maxRecDepth 20000 in
theorem rX12_findTwins_197 {X : Cx} {v1 : Int} {v2 : Int} {v3 : Int} {v4 : Int} {v5 : Int} {σ : Sg} {Q : Int → Sg → Prop} (h : Rng σ → (inI v5) ∧ (((σ 69 0) ≤ v5 → (inI v4) ∧ ((v4 = 0 → (0 ≤ v3 ∧ v3 < 8) ∧ GX12_findTwins_276 X v1 v2 v3 v4 v5 (σ 93 v3.toNat) v3 σ Q) ∧ (¬ v4 = 0 → GX12_findTwins_276 X v1 v2 v3 v4 v5 v2 v3 σ Q))) ∧ (v5 < (σ 69 0) → (inI v4) ∧ ((¬ v4 = 0 → GX12_findTwins_243 X v1 v2 v3 v4 v5 σ Q) ∧ (v4 = 0 → (0 ≤ v5 ∧ v5 < 8) ∧ (0 ≤ v3 ∧ v3 < 8) ∧ ((¬ (σ 91 v5.toNat) = (σ 91 v3.toNat) → GX12_findTwins_247 X v1 v2 v3 v4 v5 σ Q) ∧ ((σ 91 v5.toNat) = (σ 91 v3.toNat) → (0 ≤ v5 ∧ v5 < 8) ∧ (0 ≤ v3 ∧ v3 < 8) ∧ (((σ 92 v5.toNat) = (σ 92 v3.toNat) → GX12_findTwins_247 X v1 v2 v3 v4 v5 σ Q) ∧ (¬ (σ 92 v5.toNat) = (σ 92 v3.toNat) → GX12_findTwins_243 X v1 v2 v3 v4 v5 σ Q))))))))) : GX12_findTwins_197 X v1 v2 v3 v4 v5 σ Q := by
  unfold GX12_findTwins_197
  refine V_rng (fun hR0 => ?_)
  have h := h hR0
  refine V_iload 5 rfl dX12_findTwins_197 ?_
  refine V_aload_n 0 rfl rfl dX12_findTwins_199 ?_
  refine V_getI (f := 0) ci_X12 sh_69 rfl (by decide) dX12_findTwins_200 lk_RX12_f98 ?_
  obtain ⟨g1, h⟩ := h
  refine V_icmp_ge (tgt := 256) dX12_findTwins_203 (by decide) g1 (show inI (σ 69 0) from (hR0.1 69 0 (by decide))) (fun q2 => ?_) (fun q2 => ?_)
  · have h := h.1 q2
    refine V_aload_n 0 rfl rfl dX12_findTwins_256 ?_
    refine V_getR (f := 33) ci_X12 sh_69 rfl (by decide) (c1 := 93) rfl dX12_findTwins_257 lk_RX12_f80 ?_
    refine V_iload_n 3 rfl rfl dX12_findTwins_260 ?_
    refine V_iload 4 rfl dX12_findTwins_261 ?_
    obtain ⟨g3, h⟩ := h
    refine V_if_eq (tgt := 270) dX12_findTwins_263 (by decide) g3 (fun q4 => ?_) (fun q4 => ?_)
    · have h := h.1 q4
      refine V_aload_n 0 rfl rfl dX12_findTwins_270 ?_
      refine V_getR (f := 33) ci_X12 sh_69 rfl (by decide) (c1 := 93) rfl dX12_findTwins_271 lk_RX12_f80 ?_
      refine V_iload_n 3 rfl rfl dX12_findTwins_274 ?_
      obtain ⟨g5, h⟩ := h
      refine V_iald sh_93 (by decide) g5 dX12_findTwins_275 ?_
      exact h
    · have h := h.2 q4
      refine V_iload_n 2 rfl rfl dX12_findTwins_266 ?_
      refine V_goto (tgt := 276) dX12_findTwins_267 (by decide) ?_
      exact h
  · have h := h.2 q2
    refine V_iload 4 rfl dX12_findTwins_206 ?_
    obtain ⟨g6, h⟩ := h
    refine V_if_ne (tgt := 243) dX12_findTwins_208 (by decide) g6 (fun q7 => ?_) (fun q7 => ?_)
    · have h := h.1 q7
      exact h
    · have h := h.2 q7
      refine V_aload_n 0 rfl rfl dX12_findTwins_211 ?_
      refine V_getR (f := 31) ci_X12 sh_69 rfl (by decide) (c1 := 91) rfl dX12_findTwins_212 lk_RX12_f74 ?_
      refine V_iload 5 rfl dX12_findTwins_215 ?_
      obtain ⟨g8, h⟩ := h
      refine V_iald sh_91 (by decide) g8 dX12_findTwins_217 ?_
      refine V_aload_n 0 rfl rfl dX12_findTwins_218 ?_
      refine V_getR (f := 31) ci_X12 sh_69 rfl (by decide) (c1 := 91) rfl dX12_findTwins_219 lk_RX12_f74 ?_
      refine V_iload_n 3 rfl rfl dX12_findTwins_222 ?_
      obtain ⟨g9, h⟩ := h
      refine V_iald sh_91 (by decide) g9 dX12_findTwins_223 ?_
      refine V_icmp_ne (tgt := 247) dX12_findTwins_224 (by decide) (show inI (σ 91 v5.toNat) from (inI_sh hR0 sh_91 (by decide))) (show inI (σ 91 v3.toNat) from (inI_sh hR0 sh_91 (by decide))) (fun q10 => ?_) (fun q10 => ?_)
      · have h := h.1 q10
        exact h
      · have h := h.2 q10
        refine V_aload_n 0 rfl rfl dX12_findTwins_227 ?_
        refine V_getR (f := 32) ci_X12 sh_69 rfl (by decide) (c1 := 92) rfl dX12_findTwins_228 lk_RX12_f77 ?_
        refine V_iload 5 rfl dX12_findTwins_231 ?_
        obtain ⟨g11, h⟩ := h
        refine V_iald sh_92 (by decide) g11 dX12_findTwins_233 ?_
        refine V_aload_n 0 rfl rfl dX12_findTwins_234 ?_
        refine V_getR (f := 32) ci_X12 sh_69 rfl (by decide) (c1 := 92) rfl dX12_findTwins_235 lk_RX12_f77 ?_
        refine V_iload_n 3 rfl rfl dX12_findTwins_238 ?_
        obtain ⟨g12, h⟩ := h
        refine V_iald sh_92 (by decide) g12 dX12_findTwins_239 ?_
        refine V_icmp_eq (tgt := 247) dX12_findTwins_240 (by decide) (show inI (σ 92 v5.toNat) from (inI_sh hR0 sh_92 (by decide))) (show inI (σ 92 v3.toNat) from (inI_sh hR0 sh_92 (by decide))) (fun q13 => ?_) (fun q13 => ?_)
        · have h := h.1 q13
          exact h
        · have h := h.2 q13
          exact h
set_option maxHeartbeats 2000000 in
set_option maxRecDepth 20000 in
theorem rX12_findTwins_243 {X : Cx} {v1 : Int} {v2 : Int} {v3 : Int} {v4 : Int} {v5 : Int} {σ : Sg} {Q : Int → Sg → Prop} (h : Rng σ → GX12_findTwins_248 X v1 v2 v3 v4 v5 1 σ Q) : GX12_findTwins_243 X v1 v2 v3 v4 v5 σ Q := by
  unfold GX12_findTwins_243
  refine V_rng (fun hR0 => ?_)
  have h := h hR0
  refine V_iconst dX12_findTwins_243 ?_
  refine V_goto (tgt := 248) dX12_findTwins_244 (by decide) ?_
  exact h
set_option maxHeartbeats 2000000 in
set_option maxRecDepth 20000 in
theorem rX12_findTwins_247 {X : Cx} {v1 : Int} {v2 : Int} {v3 : Int} {v4 : Int} {v5 : Int} {σ : Sg} {Q : Int → Sg → Prop} (h : Rng σ → GX12_findTwins_248 X v1 v2 v3 v4 v5 0 σ Q) : GX12_findTwins_247 X v1 v2 v3 v4 v5 σ Q := by
  unfold GX12_findTwins_247
  refine V_rng (fun hR0 => ?_)
  have h := h hR0
  refine V_iconst dX12_findTwins_247 ?_
  exact h
set_option maxHeartbeats 2000000 in
set_option maxRecDepth 20000 in
theorem rX12_findTwins_248 {X : Cx} {v1 : Int} {v2 : Int} {v3 : Int} {v4 : Int} {v5 : Int} {s0 : Int} {σ : Sg} {Q : Int → Sg → Prop} (h : Rng σ → GX12_findTwins_197 X v1 v2 v3 s0 (v5 + 1) σ Q) : GX12_findTwins_248 X v1 v2 v3 v4 v5 s0 σ Q := by
  unfold GX12_findTwins_248
  refine V_rng (fun hR0 => ?_)
  have h := h hR0
  refine V_istore (L' := [(4, .int (gI s0)), (0, .ref (cxA X 69)), (1, .int (gI v1)), (2, .int (gI v2)), (3, .int (gI v3)), (5, .int (gI v5))]) (by decide) rfl dX12_findTwins_248 ?_
  refine V_iinc (L' := [(5, .int (gI (v5 + 1))), (4, .int (gI s0)), (0, .ref (cxA X 69)), (1, .int (gI v1)), (2, .int (gI v2)), (3, .int (gI v3))]) 5 rfl (by decide) rfl dX12_findTwins_250 ?_
  refine V_goto (tgt := 197) dX12_findTwins_253 (by decide) ?_
  exact V_sub [2, 3, 4, 5, 1, 0] rfl h
set_option maxHeartbeats 2000000 in
set_option maxRecDepth 20000 in
theorem rX12_findTwins_276 {X : Cx} {v1 : Int} {v2 : Int} {v3 : Int} {v4 : Int} {v5 : Int} {s0 : Int} {s1 : Int} {σ : Sg} {Q : Int → Sg → Prop} (h : Rng σ → (0 ≤ s1 ∧ s1 < 8) ∧ (inI s0) ∧ (inI v1) ∧ ((¬ v1 = 0 → GX12_findTwins_286 X v1 v2 v3 v4 v5 (up2 σ 93 s1.toNat s0) Q) ∧ (v1 = 0 → (inI v4) ∧ ((v4 = 0 → GX12_findTwins_291 X v1 v2 v3 v4 v5 0 (up2 σ 93 s1.toNat s0) Q) ∧ (¬ v4 = 0 → GX12_findTwins_286 X v1 v2 v3 v4 v5 (up2 σ 93 s1.toNat s0) Q))))) : GX12_findTwins_276 X v1 v2 v3 v4 v5 s0 s1 σ Q := by
  unfold GX12_findTwins_276
  refine V_rng (fun hR0 => ?_)
  have h := h hR0
  obtain ⟨g1, h⟩ := h
  obtain ⟨g2, h⟩ := h
  refine V_iast sh_93 (by decide) g1 g2 dX12_findTwins_276 ?_
  refine V_iload_n 1 rfl rfl dX12_findTwins_277 ?_
  obtain ⟨g3, h⟩ := h
  refine V_if_ne (tgt := 286) dX12_findTwins_278 (by decide) g3 (fun q4 => ?_) (fun q4 => ?_)
  · have h := h.1 q4
    exact h
  · have h := h.2 q4
    refine V_iload 4 rfl dX12_findTwins_281 ?_
    obtain ⟨g5, h⟩ := h
    refine V_if_eq (tgt := 290) dX12_findTwins_283 (by decide) g5 (fun q6 => ?_) (fun q6 => ?_)
    · have h := h.1 q6
      refine V_iconst dX12_findTwins_290 ?_
      exact h
    · have h := h.2 q6
      exact h
set_option maxHeartbeats 2000000 in
set_option maxRecDepth 20000 in
theorem rX12_findTwins_286 {X : Cx} {v1 : Int} {v2 : Int} {v3 : Int} {v4 : Int} {v5 : Int} {σ : Sg} {Q : Int → Sg → Prop} (h : Rng σ → GX12_findTwins_291 X v1 v2 v3 v4 v5 1 σ Q) : GX12_findTwins_286 X v1 v2 v3 v4 v5 σ Q := by
  unfold GX12_findTwins_286
  refine V_rng (fun hR0 => ?_)
  have h := h hR0
  refine V_iconst dX12_findTwins_286 ?_
  refine V_goto (tgt := 291) dX12_findTwins_287 (by decide) ?_
  exact h
set_option maxHeartbeats 2000000 in
set_option maxRecDepth 20000 in
theorem rX12_findTwins_291 {X : Cx} {v1 : Int} {v2 : Int} {v3 : Int} {v4 : Int} {v5 : Int} {s0 : Int} {σ : Sg} {Q : Int → Sg → Prop} (h : Rng σ → GX12_findTwins_183 X s0 v2 (v3 + 1) σ Q) : GX12_findTwins_291 X v1 v2 v3 v4 v5 s0 σ Q := by
  unfold GX12_findTwins_291
  refine V_rng (fun hR0 => ?_)
  have h := h hR0
  refine V_istore_n (L' := [(1, .int (gI s0)), (0, .ref (cxA X 69)), (2, .int (gI v2)), (3, .int (gI v3)), (4, .int (gI v4)), (5, .int (gI v5))]) rfl (by decide) rfl dX12_findTwins_291 ?_
  refine V_iinc (L' := [(3, .int (gI (v3 + 1))), (1, .int (gI s0)), (0, .ref (cxA X 69)), (2, .int (gI v2)), (4, .int (gI v4)), (5, .int (gI v5))]) 3 rfl (by decide) rfl dX12_findTwins_292 ?_
  refine V_goto (tgt := 183) dX12_findTwins_295 (by decide) ?_
  exact V_sub [2, 1, 3, 0] rfl h
set_option maxHeartbeats 2000000 in
set_option maxRecDepth 20000 in
theorem rX12_findTwins_300 {X : Cx} {v1 : Int} {v2 : Int} {v3 : Int} {σ : Sg} {Q : Int → Sg → Prop} (h : Rng σ → (inI v3) ∧ (((σ 69 0) ≤ v3 → GX12_findTwins_109 X v1 (v2 + 1) σ Q) ∧ (v3 < (σ 69 0) → (0 ≤ v3 ∧ v3 < 8) ∧ (0 ≤ v3 ∧ v3 < 8) ∧ GX12_findTwins_300 X v1 v2 (v3 + 1) (up2 σ 91 v3.toNat (σ 92 v3.toNat)) Q))) : GX12_findTwins_300 X v1 v2 v3 σ Q := by
  unfold GX12_findTwins_300
  refine V_rng (fun hR0 => ?_)
  have h := h hR0
  refine V_iload_n 3 rfl rfl dX12_findTwins_300 ?_
  refine V_aload_n 0 rfl rfl dX12_findTwins_301 ?_
  refine V_getI (f := 0) ci_X12 sh_69 rfl (by decide) dX12_findTwins_302 lk_RX12_f98 ?_
  obtain ⟨g1, h⟩ := h
  refine V_icmp_ge (tgt := 326) dX12_findTwins_305 (by decide) g1 (show inI (σ 69 0) from (hR0.1 69 0 (by decide))) (fun q2 => ?_) (fun q2 => ?_)
  · have h := h.1 q2
    refine V_iinc (L' := [(2, .int (gI (v2 + 1))), (0, .ref (cxA X 69)), (1, .int (gI v1)), (3, .int (gI v3))]) 2 rfl (by decide) rfl dX12_findTwins_326 ?_
    refine V_goto (tgt := 109) dX12_findTwins_329 (by decide) ?_
    exact V_sub [1, 2, 0] rfl h
  · have h := h.2 q2
    refine V_aload_n 0 rfl rfl dX12_findTwins_308 ?_
    refine V_getR (f := 31) ci_X12 sh_69 rfl (by decide) (c1 := 91) rfl dX12_findTwins_309 lk_RX12_f74 ?_
    refine V_iload_n 3 rfl rfl dX12_findTwins_312 ?_
    refine V_aload_n 0 rfl rfl dX12_findTwins_313 ?_
    refine V_getR (f := 32) ci_X12 sh_69 rfl (by decide) (c1 := 92) rfl dX12_findTwins_314 lk_RX12_f77 ?_
    refine V_iload_n 3 rfl rfl dX12_findTwins_317 ?_
    obtain ⟨g3, h⟩ := h
    refine V_iald sh_92 (by decide) g3 dX12_findTwins_318 ?_
    obtain ⟨g4, h⟩ := h
    refine V_iast sh_91 (by decide) g4 (show inI (σ 92 v3.toNat) from (inI_sh hR0 sh_92 (by decide))) dX12_findTwins_319 ?_
    refine V_iinc (L' := [(3, .int (gI (v3 + 1))), (0, .ref (cxA X 69)), (1, .int (gI v1)), (2, .int (gI v2))]) 3 rfl (by decide) rfl dX12_findTwins_320 ?_
    refine V_goto (tgt := 300) dX12_findTwins_323 (by decide) ?_
    exact V_sub [1, 2, 3, 0] rfl h
theorem eX12_findTwins {X : Cx} {σ : Sg} {Q : Int → Sg → Prop} (h : GX12_findTwins_0 X σ Q) : KX12_findTwins X σ Q := V_enter (by decide) (Nat.le_of_ble_eq_true rfl) rfl h
def GX12_twin_0 (X : Cx) (v1 : Int) (v2 : Int) (σ : Sg) (Q : Int → Sg → Prop) : Prop := VV X mX12_twin 0 [(0, .ref (cxA X 69)), (1, .int (gI v1)), (2, .int (gI v2))] [] σ Q
def GX12_twin_32 (X : Cx) (v1 : Int) (v2 : Int) (v3 : Int) (v4 : Int) (σ : Sg) (Q : Int → Sg → Prop) : Prop := VV X mX12_twin 32 [(0, .ref (cxA X 69)), (1, .int (gI v1)), (2, .int (gI v2)), (3, .int (gI v3)), (4, .int (gI v4))] [] σ Q
def GX12_twin_59 (X : Cx) (v1 : Int) (v2 : Int) (v3 : Int) (v4 : Int) (s0 : Int) (s1 : Int) (σ : Sg) (Q : Int → Sg → Prop) : Prop := VV X mX12_twin 59 [(0, .ref (cxA X 69)), (1, .int (gI v1)), (2, .int (gI v2)), (3, .int (gI v3)), (4, .int (gI v4))] [.int (gI s0), .int (gI s1)] σ Q
set_option maxHeartbeats 2000000 in
set_option maxRecDepth 20000 in
theorem rX12_twin_0 {X : Cx} {v1 : Int} {v2 : Int} {σ : Sg} {Q : Int → Sg → Prop} (h : Rng σ → KX12_isThing X v1 σ (fun r1 σ2 => Rng σ2 → (inI r1) ∧ ((¬ r1 = 0 → KX12_in X v2 0 2 σ2 (fun r6 σ7 => Rng σ7 → (inI r6) ∧ ((¬ r6 = 0 → KX12_findTwins X σ7 (fun r11 σ12 => Rng σ12 → GX12_twin_32 X v1 v2 0 0 σ12 Q)) ∧ (r6 = 0 → Q ((-3)) σ7)))) ∧ (r1 = 0 → Q ((-2)) σ2)))) : GX12_twin_0 X v1 v2 σ Q := by
  unfold GX12_twin_0
  refine V_rng (fun hR0 => ?_)
  have h := h hR0
  refine V_aload_n 0 rfl rfl dX12_twin_0 ?_
  refine V_iload_n 1 rfl rfl dX12_twin_1 ?_
  refine V_cV (M' := mX12_isThing) (As := [.int (gI v1)]) (fun r => [.int (gI r)]) ok_X12_isThing ok2_X12_isThing sh_69 rfl (by decide) rfl rfl (Nat.le_of_ble_eq_true rfl) dX12_twin_2 lk_RX12_m106 (by decide) (fun _ => rfl) h (fun r1 σ2 h => ?_)
  refine V_rng (fun hR3 => ?_)
  have h := h hR3
  obtain ⟨g4, h⟩ := h
  refine V_if_ne (tgt := 11) dX12_twin_5 (by decide) g4 (fun q5 => ?_) (fun q5 => ?_)
  · have h := h.1 q5
    refine V_iload_n 2 rfl rfl dX12_twin_11 ?_
    refine V_iconst dX12_twin_12 ?_
    refine V_iconst dX12_twin_13 ?_
    refine V_cS (M' := mX12_in) (As := [.int (gI v2), .int (gI 0), .int (gI 2)]) (fun r => [.int (gI r)]) ok_X12_in ok2_X12_in rfl rfl (Nat.le_of_ble_eq_true rfl) dX12_twin_14 lk_RX12_m102 (by decide) (fun _ => rfl) h (fun r6 σ7 h => ?_)
    refine V_rng (fun hR8 => ?_)
    have h := h hR8
    obtain ⟨g9, h⟩ := h
    refine V_if_ne (tgt := 23) dX12_twin_17 (by decide) g9 (fun q10 => ?_) (fun q10 => ?_)
    · have h := h.1 q10
      refine V_aload_n 0 rfl rfl dX12_twin_23 ?_
      refine V_cV (M' := mX12_findTwins) (As := []) (fun _ => []) ok_X12_findTwins ok2_X12_findTwins sh_69 rfl (by decide) rfl rfl (Nat.le_of_ble_eq_true rfl) dX12_twin_24 lk_RX12_m264 (by decide) (fun _ => rfl) h (fun r11 σ12 h => ?_)
      refine V_rng (fun hR13 => ?_)
      have h := h hR13
      refine V_iconst dX12_twin_27 ?_
      refine V_istore_n (L' := [(3, .int (gI 0)), (0, .ref (cxA X 69)), (1, .int (gI v1)), (2, .int (gI v2))]) rfl (by decide) rfl dX12_twin_28 ?_
      refine V_iconst dX12_twin_29 ?_
      refine V_istore (L' := [(4, .int (gI 0)), (3, .int (gI 0)), (0, .ref (cxA X 69)), (1, .int (gI v1)), (2, .int (gI v2))]) (by decide) rfl dX12_twin_30 ?_
      exact V_sub [2, 3, 4, 1, 0] rfl h
    · have h := h.2 q10
      refine V_bipush (v := -3) (by decide) dX12_twin_20 ?_
      exact V_iret rfl (fun _ q => by cases q) (vp_nar_int _) dX12_twin_22 h
  · have h := h.2 q5
    refine V_bipush (v := -2) (by decide) dX12_twin_8 ?_
    exact V_iret rfl (fun _ q => by cases q) (vp_nar_int _) dX12_twin_10 h
set_option maxHeartbeats 2000000 in
set_option maxRecDepth 20000 in
theorem rX12_twin_32 {X : Cx} {v1 : Int} {v2 : Int} {v3 : Int} {v4 : Int} {σ : Sg} {Q : Int → Sg → Prop} (h : Rng σ → (inI v4) ∧ (((σ 69 0) ≤ v4 → (inI v2) ∧ ((¬ v2 = 0 → (inI v2) ∧ ((¬ v2 = 1 → Q v3 σ) ∧ (v2 = 1 → (0 ≤ v1 ∧ v1 < 8) ∧ Q (σ 93 v1.toNat) σ))) ∧ (v2 = 0 → (0 ≤ v1 ∧ v1 < 8) ∧ Q (σ 91 v1.toNat) σ))) ∧ (v4 < (σ 69 0) → (0 ≤ v4 ∧ v4 < 8) ∧ (inI v4) ∧ ((¬ (σ 91 v4.toNat) = v4 → GX12_twin_59 X v1 v2 v3 v4 0 v3 σ Q) ∧ ((σ 91 v4.toNat) = v4 → GX12_twin_59 X v1 v2 v3 v4 1 v3 σ Q))))) : GX12_twin_32 X v1 v2 v3 v4 σ Q := by
  unfold GX12_twin_32
  refine V_rng (fun hR0 => ?_)
  have h := h hR0
  refine V_iload 4 rfl dX12_twin_32 ?_
  refine V_aload_n 0 rfl rfl dX12_twin_34 ?_
  refine V_getI (f := 0) ci_X12 sh_69 rfl (by decide) dX12_twin_35 lk_RX12_f98 ?_
  obtain ⟨g1, h⟩ := h
  refine V_icmp_ge (tgt := 67) dX12_twin_38 (by decide) g1 (show inI (σ 69 0) from (hR0.1 69 0 (by decide))) (fun q2 => ?_) (fun q2 => ?_)
  · have h := h.1 q2
    refine V_iload_n 2 rfl rfl dX12_twin_67 ?_
    obtain ⟨g3, h⟩ := h
    refine V_if_ne (tgt := 80) dX12_twin_68 (by decide) g3 (fun q4 => ?_) (fun q4 => ?_)
    · have h := h.1 q4
      refine V_iload_n 2 rfl rfl dX12_twin_80 ?_
      refine V_iconst dX12_twin_81 ?_
      obtain ⟨g5, h⟩ := h
      refine V_icmp_ne (tgt := 94) dX12_twin_82 (by decide) g5 (by decide) (fun q6 => ?_) (fun q6 => ?_)
      · have h := h.1 q6
        refine V_iload_n 3 rfl rfl dX12_twin_94 ?_
        exact V_iret rfl (fun _ q => by cases q) (vp_nar_int _) dX12_twin_95 h
      · have h := h.2 q6
        refine V_aload_n 0 rfl rfl dX12_twin_85 ?_
        refine V_getR (f := 33) ci_X12 sh_69 rfl (by decide) (c1 := 93) rfl dX12_twin_86 lk_RX12_f80 ?_
        refine V_iload_n 1 rfl rfl dX12_twin_89 ?_
        obtain ⟨g7, h⟩ := h
        refine V_iald sh_93 (by decide) g7 dX12_twin_90 ?_
        refine V_goto (tgt := 95) dX12_twin_91 (by decide) ?_
        exact V_iret rfl (fun _ q => by cases q) (vp_nar_int _) dX12_twin_95 h
    · have h := h.2 q4
      refine V_aload_n 0 rfl rfl dX12_twin_71 ?_
      refine V_getR (f := 31) ci_X12 sh_69 rfl (by decide) (c1 := 91) rfl dX12_twin_72 lk_RX12_f74 ?_
      refine V_iload_n 1 rfl rfl dX12_twin_75 ?_
      obtain ⟨g8, h⟩ := h
      refine V_iald sh_91 (by decide) g8 dX12_twin_76 ?_
      refine V_goto (tgt := 95) dX12_twin_77 (by decide) ?_
      exact V_iret rfl (fun _ q => by cases q) (vp_nar_int _) dX12_twin_95 h
  · have h := h.2 q2
    refine V_iload_n 3 rfl rfl dX12_twin_41 ?_
    refine V_aload_n 0 rfl rfl dX12_twin_42 ?_
    refine V_getR (f := 31) ci_X12 sh_69 rfl (by decide) (c1 := 91) rfl dX12_twin_43 lk_RX12_f74 ?_
    refine V_iload 4 rfl dX12_twin_46 ?_
    obtain ⟨g9, h⟩ := h
    refine V_iald sh_91 (by decide) g9 dX12_twin_48 ?_
    refine V_iload 4 rfl dX12_twin_49 ?_
    obtain ⟨g10, h⟩ := h
    refine V_icmp_ne (tgt := 58) dX12_twin_51 (by decide) (show inI (σ 91 v4.toNat) from (inI_sh hR0 sh_91 (by decide))) g10 (fun q11 => ?_) (fun q11 => ?_)
    · have h := h.1 q11
      refine V_iconst dX12_twin_58 ?_
      exact h
    · have h := h.2 q11
      refine V_iconst dX12_twin_54 ?_
      refine V_goto (tgt := 59) dX12_twin_55 (by decide) ?_
      exact h
set_option maxHeartbeats 2000000 in
set_option maxRecDepth 20000 in
theorem rX12_twin_59 {X : Cx} {v1 : Int} {v2 : Int} {v3 : Int} {v4 : Int} {s0 : Int} {s1 : Int} {σ : Sg} {Q : Int → Sg → Prop} (h : Rng σ → GX12_twin_32 X v1 v2 (s1 + s0) (v4 + 1) σ Q) : GX12_twin_59 X v1 v2 v3 v4 s0 s1 σ Q := by
  unfold GX12_twin_59
  refine V_rng (fun hR0 => ?_)
  have h := h hR0
  refine V_iadd dX12_twin_59 ?_
  refine V_istore_n (L' := [(3, .int (gI (s1 + s0))), (0, .ref (cxA X 69)), (1, .int (gI v1)), (2, .int (gI v2)), (4, .int (gI v4))]) rfl (by decide) rfl dX12_twin_60 ?_
  refine V_iinc (L' := [(4, .int (gI (v4 + 1))), (3, .int (gI (s1 + s0))), (0, .ref (cxA X 69)), (1, .int (gI v1)), (2, .int (gI v2))]) 4 rfl (by decide) rfl dX12_twin_61 ?_
  refine V_goto (tgt := 32) dX12_twin_64 (by decide) ?_
  exact V_sub [2, 3, 4, 1, 0] rfl h
theorem eX12_twin {X : Cx} {v1 : Int} {v2 : Int} {σ : Sg} {Q : Int → Sg → Prop} (h : GX12_twin_0 X v1 v2 σ Q) : KX12_twin X v1 v2 σ Q := V_enter (by decide) (Nat.le_of_ble_eq_true rfl) rfl h
def GX12_breaks_0 (X : Cx) (σ : Sg) (Q : Int → Sg → Prop) : Prop := VV X mX12_breaks 0 [(0, .ref (cxA X 69))] [] σ Q
def GX12_breaks_17 (X : Cx) (v1 : Int) (v2 : Int) (σ : Sg) (Q : Int → Sg → Prop) : Prop := VV X mX12_breaks 17 [(0, .ref (cxA X 69)), (1, .int (gI v1)), (2, .int (gI v2))] [] σ Q
def GX12_breaks_38 (X : Cx) (v1 : Int) (v2 : Int) (v3 : Int) (v4 : Int) (v5 : Int) (σ : Sg) (Q : Int → Sg → Prop) : Prop := VV X mX12_breaks 38 [(0, .ref (cxA X 69)), (1, .int (gI v1)), (2, .int (gI v2)), (3, .int (gI v3)), (4, .int (gI v4)), (5, .int (gI v5))] [] σ Q
def GX12_breaks_70 (X : Cx) (v1 : Int) (v2 : Int) (v3 : Int) (v4 : Int) (v5 : Int) (σ : Sg) (Q : Int → Sg → Prop) : Prop := VV X mX12_breaks 70 [(0, .ref (cxA X 69)), (1, .int (gI v1)), (2, .int (gI v2)), (3, .int (gI v3)), (4, .int (gI v4)), (5, .int (gI v5))] [] σ Q
def GX12_breaks_72 (X : Cx) (v1 : Int) (v2 : Int) (v3 : Int) (v4 : Int) (v5 : Int) (s0 : Int) (σ : Sg) (Q : Int → Sg → Prop) : Prop := VV X mX12_breaks 72 [(0, .ref (cxA X 69)), (1, .int (gI v1)), (2, .int (gI v2)), (3, .int (gI v3)), (4, .int (gI v4)), (5, .int (gI v5))] [.int (gI s0)] σ Q
set_option maxHeartbeats 2000000 in
set_option maxRecDepth 20000 in
theorem rX12_breaks_0 {X : Cx} {σ : Sg} {Q : Int → Sg → Prop} (h : Rng σ → KX12_isRead X σ (fun r1 σ2 => Rng σ2 → (inI r1) ∧ ((¬ r1 = 0 → KX12_meaning X σ2 (fun r6 σ7 => Rng σ7 → GX12_breaks_17 X r6 0 σ7 Q)) ∧ (r1 = 0 → Q ((-4)) σ2)))) : GX12_breaks_0 X σ Q := by
  unfold GX12_breaks_0
  refine V_rng (fun hR0 => ?_)
  have h := h hR0
  refine V_aload_n 0 rfl rfl dX12_breaks_0 ?_
  refine V_cV (M' := mX12_isRead) (As := []) (fun r => [.int (gI r)]) ok_X12_isRead ok2_X12_isRead sh_69 rfl (by decide) rfl rfl (Nat.le_of_ble_eq_true rfl) dX12_breaks_1 lk_RX12_m201 (by decide) (fun _ => rfl) h (fun r1 σ2 h => ?_)
  refine V_rng (fun hR3 => ?_)
  have h := h hR3
  obtain ⟨g4, h⟩ := h
  refine V_if_ne (tgt := 10) dX12_breaks_4 (by decide) g4 (fun q5 => ?_) (fun q5 => ?_)
  · have h := h.1 q5
    refine V_aload_n 0 rfl rfl dX12_breaks_10 ?_
    refine V_cV (M' := mX12_meaning) (As := []) (fun r => [.int (gI r)]) ok_X12_meaning ok2_X12_meaning sh_69 rfl (by decide) rfl rfl (Nat.le_of_ble_eq_true rfl) dX12_breaks_11 lk_RX12_m222 (by decide) (fun _ => rfl) h (fun r6 σ7 h => ?_)
    refine V_rng (fun hR8 => ?_)
    have h := h hR8
    refine V_istore_n (L' := [(1, .int (gI r6)), (0, .ref (cxA X 69))]) rfl (by decide) rfl dX12_breaks_14 ?_
    refine V_iconst dX12_breaks_15 ?_
    refine V_istore_n (L' := [(2, .int (gI 0)), (1, .int (gI r6)), (0, .ref (cxA X 69))]) rfl (by decide) rfl dX12_breaks_16 ?_
    exact V_sub [2, 1, 0] rfl h
  · have h := h.2 q5
    refine V_bipush (v := -4) (by decide) dX12_breaks_7 ?_
    exact V_iret rfl (fun _ q => by cases q) (vp_nar_int _) dX12_breaks_9 h
set_option maxHeartbeats 2000000 in
set_option maxRecDepth 20000 in
theorem rX12_breaks_17 {X : Cx} {v1 : Int} {v2 : Int} {σ : Sg} {Q : Int → Sg → Prop} (h : Rng σ → (inI v2) ∧ (((σ 69 0) ≤ v2 → Q ((-1)) σ) ∧ (v2 < (σ 69 0) → (0 ≤ v2 ∧ v2 < 8) ∧ GX12_breaks_38 X v1 v2 (σ 71 v2.toNat) ((-1)) 3 σ Q))) : GX12_breaks_17 X v1 v2 σ Q := by
  unfold GX12_breaks_17
  refine V_rng (fun hR0 => ?_)
  have h := h hR0
  refine V_iload_n 2 rfl rfl dX12_breaks_17 ?_
  refine V_aload_n 0 rfl rfl dX12_breaks_18 ?_
  refine V_getI (f := 0) ci_X12 sh_69 rfl (by decide) dX12_breaks_19 lk_RX12_f98 ?_
  obtain ⟨g1, h⟩ := h
  refine V_icmp_ge (tgt := 106) dX12_breaks_22 (by decide) g1 (show inI (σ 69 0) from (hR0.1 69 0 (by decide))) (fun q2 => ?_) (fun q2 => ?_)
  · have h := h.1 q2
    refine V_iconst dX12_breaks_106 ?_
    exact V_iret rfl (fun _ q => by cases q) (vp_nar_int _) dX12_breaks_107 h
  · have h := h.2 q2
    refine V_aload_n 0 rfl rfl dX12_breaks_25 ?_
    refine V_getR (f := 2) ci_X12 sh_69 rfl (by decide) (c1 := 71) rfl dX12_breaks_26 lk_RX12_f13 ?_
    refine V_iload_n 2 rfl rfl dX12_breaks_29 ?_
    obtain ⟨g3, h⟩ := h
    refine V_iald sh_71 (by decide) g3 dX12_breaks_30 ?_
    refine V_istore_n (L' := [(3, .int (gI (σ 71 v2.toNat))), (0, .ref (cxA X 69)), (1, .int (gI v1)), (2, .int (gI v2))]) rfl (by decide) rfl dX12_breaks_31 ?_
    refine V_iconst dX12_breaks_32 ?_
    refine V_istore (L' := [(4, .int (gI ((-1)))), (3, .int (gI (σ 71 v2.toNat))), (0, .ref (cxA X 69)), (1, .int (gI v1)), (2, .int (gI v2))]) (by decide) rfl dX12_breaks_33 ?_
    refine V_iconst dX12_breaks_35 ?_
    refine V_istore (L' := [(5, .int (gI 3)), (4, .int (gI ((-1)))), (3, .int (gI (σ 71 v2.toNat))), (0, .ref (cxA X 69)), (1, .int (gI v1)), (2, .int (gI v2))]) (by decide) rfl dX12_breaks_36 ?_
    exact V_sub [3, 4, 5, 2, 1, 0] rfl h
set_option maxHeartbeats 2000000 in
set_option maxRecDepth 20000 in
theorem rX12_breaks_38 {X : Cx} {v1 : Int} {v2 : Int} {v3 : Int} {v4 : Int} {v5 : Int} {σ : Sg} {Q : Int → Sg → Prop} (h : Rng σ → (inI v5) ∧ ((v5 < 0 → (0 ≤ v2 ∧ v2 < 8) ∧ (inI v3) ∧ (inI v4) ∧ ((v4 = ((-1)) → GX12_breaks_17 X v1 (v2 + 1) (up2 σ 71 v2.toNat v3) Q) ∧ (¬ v4 = ((-1)) → Q ((4 * v2) + v4) (up2 σ 71 v2.toNat v3)))) ∧ (0 ≤ v5 → (0 ≤ v2 ∧ v2 < 8) ∧ (inI v5) ∧ (inI v5) ∧ (inI v3) ∧ ((v5 = v3 → GX12_breaks_70 X v1 v2 v3 v4 v5 (up2 σ 71 v2.toNat v5) Q) ∧ (¬ v5 = v3 → KX12_meaning X (up2 σ 71 v2.toNat v5) (fun r12 σ13 => Rng σ13 → (inI r12) ∧ (inI v1) ∧ ((r12 = v1 → GX12_breaks_70 X v1 v2 v3 v4 v5 σ13 Q) ∧ (¬ r12 = v1 → GX12_breaks_72 X v1 v2 v3 v4 v5 v5 σ13 Q)))))))) : GX12_breaks_38 X v1 v2 v3 v4 v5 σ Q := by
  unfold GX12_breaks_38
  refine V_rng (fun hR0 => ?_)
  have h := h hR0
  refine V_iload 5 rfl dX12_breaks_38 ?_
  obtain ⟨g1, h⟩ := h
  refine V_if_lt (tgt := 80) dX12_breaks_40 (by decide) g1 (fun q2 => ?_) (fun q2 => ?_)
  · have h := h.1 q2
    refine V_aload_n 0 rfl rfl dX12_breaks_80 ?_
    refine V_getR (f := 2) ci_X12 sh_69 rfl (by decide) (c1 := 71) rfl dX12_breaks_81 lk_RX12_f13 ?_
    refine V_iload_n 2 rfl rfl dX12_breaks_84 ?_
    refine V_iload_n 3 rfl rfl dX12_breaks_85 ?_
    obtain ⟨g3, h⟩ := h
    obtain ⟨g4, h⟩ := h
    refine V_iast sh_71 (by decide) g3 g4 dX12_breaks_86 ?_
    refine V_iload 4 rfl dX12_breaks_87 ?_
    refine V_iconst dX12_breaks_89 ?_
    obtain ⟨g5, h⟩ := h
    refine V_icmp_eq (tgt := 100) dX12_breaks_90 (by decide) g5 (by decide) (fun q6 => ?_) (fun q6 => ?_)
    · have h := h.1 q6
      refine V_iinc (L' := [(2, .int (gI (v2 + 1))), (0, .ref (cxA X 69)), (1, .int (gI v1)), (3, .int (gI v3)), (4, .int (gI v4)), (5, .int (gI v5))]) 2 rfl (by decide) rfl dX12_breaks_100 ?_
      refine V_goto (tgt := 17) dX12_breaks_103 (by decide) ?_
      exact V_sub [1, 2, 0] rfl h
    · have h := h.2 q6
      refine V_iconst dX12_breaks_93 ?_
      refine V_iload_n 2 rfl rfl dX12_breaks_94 ?_
      refine V_imul dX12_breaks_95 ?_
      refine V_iload 4 rfl dX12_breaks_96 ?_
      refine V_iadd dX12_breaks_98 ?_
      exact V_iret rfl (fun _ q => by cases q) (vp_nar_int _) dX12_breaks_99 h
  · have h := h.2 q2
    refine V_aload_n 0 rfl rfl dX12_breaks_43 ?_
    refine V_getR (f := 2) ci_X12 sh_69 rfl (by decide) (c1 := 71) rfl dX12_breaks_44 lk_RX12_f13 ?_
    refine V_iload_n 2 rfl rfl dX12_breaks_47 ?_
    refine V_iload 5 rfl dX12_breaks_48 ?_
    obtain ⟨g7, h⟩ := h
    obtain ⟨g8, h⟩ := h
    refine V_iast sh_71 (by decide) g7 g8 dX12_breaks_50 ?_
    refine V_iload 5 rfl dX12_breaks_51 ?_
    refine V_iload_n 3 rfl rfl dX12_breaks_53 ?_
    obtain ⟨g9, h⟩ := h
    obtain ⟨g10, h⟩ := h
    refine V_icmp_eq (tgt := 70) dX12_breaks_54 (by decide) g9 g10 (fun q11 => ?_) (fun q11 => ?_)
    · have h := h.1 q11
      exact h
    · have h := h.2 q11
      refine V_aload_n 0 rfl rfl dX12_breaks_57 ?_
      refine V_cV (M' := mX12_meaning) (As := []) (fun r => [.int (gI r)]) ok_X12_meaning ok2_X12_meaning sh_69 rfl (by decide) rfl rfl (Nat.le_of_ble_eq_true rfl) dX12_breaks_58 lk_RX12_m222 (by decide) (fun _ => rfl) h (fun r12 σ13 h => ?_)
      refine V_rng (fun hR14 => ?_)
      have h := h hR14
      refine V_iload_n 1 rfl rfl dX12_breaks_61 ?_
      obtain ⟨g15, h⟩ := h
      obtain ⟨g16, h⟩ := h
      refine V_icmp_eq (tgt := 70) dX12_breaks_62 (by decide) g15 g16 (fun q17 => ?_) (fun q17 => ?_)
      · have h := h.1 q17
        exact h
      · have h := h.2 q17
        refine V_iload 5 rfl dX12_breaks_65 ?_
        refine V_goto (tgt := 72) dX12_breaks_67 (by decide) ?_
        exact h
set_option maxHeartbeats 2000000 in
set_option maxRecDepth 20000 in
theorem rX12_breaks_70 {X : Cx} {v1 : Int} {v2 : Int} {v3 : Int} {v4 : Int} {v5 : Int} {σ : Sg} {Q : Int → Sg → Prop} (h : Rng σ → GX12_breaks_72 X v1 v2 v3 v4 v5 v4 σ Q) : GX12_breaks_70 X v1 v2 v3 v4 v5 σ Q := by
  unfold GX12_breaks_70
  refine V_rng (fun hR0 => ?_)
  have h := h hR0
  refine V_iload 4 rfl dX12_breaks_70 ?_
  exact h
set_option maxHeartbeats 2000000 in
set_option maxRecDepth 20000 in
theorem rX12_breaks_72 {X : Cx} {v1 : Int} {v2 : Int} {v3 : Int} {v4 : Int} {v5 : Int} {s0 : Int} {σ : Sg} {Q : Int → Sg → Prop} (h : Rng σ → GX12_breaks_38 X v1 v2 v3 s0 (v5 + (-1)) σ Q) : GX12_breaks_72 X v1 v2 v3 v4 v5 s0 σ Q := by
  unfold GX12_breaks_72
  refine V_rng (fun hR0 => ?_)
  have h := h hR0
  refine V_istore (L' := [(4, .int (gI s0)), (0, .ref (cxA X 69)), (1, .int (gI v1)), (2, .int (gI v2)), (3, .int (gI v3)), (5, .int (gI v5))]) (by decide) rfl dX12_breaks_72 ?_
  refine V_iinc (L' := [(5, .int (gI (v5 + (-1)))), (4, .int (gI s0)), (0, .ref (cxA X 69)), (1, .int (gI v1)), (2, .int (gI v2)), (3, .int (gI v3))]) 5 rfl (by decide) rfl dX12_breaks_74 ?_
  refine V_goto (tgt := 38) dX12_breaks_77 (by decide) ?_
  exact V_sub [2, 3, 4, 5, 1, 0] rfl h
theorem eX12_breaks {X : Cx} {σ : Sg} {Q : Int → Sg → Prop} (h : GX12_breaks_0 X σ Q) : KX12_breaks X σ Q := V_enter (by decide) (Nat.le_of_ble_eq_true rfl) rfl h
def GX12_findSaid_0 (X : Cx) (σ : Sg) (Q : Int → Sg → Prop) : Prop := VV X mX12_findSaid 0 [(0, .ref (cxA X 69))] [] σ Q
def GX12_findSaid_2 (X : Cx) (v1 : Int) (σ : Sg) (Q : Int → Sg → Prop) : Prop := VV X mX12_findSaid 2 [(0, .ref (cxA X 69)), (1, .int (gI v1))] [] σ Q
def GX12_findSaid_21 (X : Cx) (v1 : Int) (v2 : Int) (v3 : Int) (σ : Sg) (Q : Int → Sg → Prop) : Prop := VV X mX12_findSaid 21 [(0, .ref (cxA X 69)), (1, .int (gI v1)), (2, .int (gI v2)), (3, .int (gI v3))] [] σ Q
def GX12_findSaid_84 (X : Cx) (v1 : Int) (v2 : Int) (v3 : Int) (v4 : Int) (σ : Sg) (Q : Int → Sg → Prop) : Prop := VV X mX12_findSaid 84 [(0, .ref (cxA X 69)), (1, .int (gI v1)), (2, .int (gI v2)), (3, .int (gI v3)), (4, .int (gI v4))] [] σ Q
def GX12_findSaid_94 (X : Cx) (v1 : Int) (v2 : Int) (v3 : Int) (v4 : Int) (σ : Sg) (Q : Int → Sg → Prop) : Prop := VV X mX12_findSaid 94 [(0, .ref (cxA X 69)), (1, .int (gI v1)), (2, .int (gI v2)), (3, .int (gI v3)), (4, .int (gI v4))] [] σ Q
set_option maxHeartbeats 2000000 in
set_option maxRecDepth 20000 in
theorem rX12_findSaid_0 {X : Cx} {σ : Sg} {Q : Int → Sg → Prop} (h : Rng σ → GX12_findSaid_2 X 0 σ Q) : GX12_findSaid_0 X σ Q := by
  unfold GX12_findSaid_0
  refine V_rng (fun hR0 => ?_)
  have h := h hR0
  refine V_iconst dX12_findSaid_0 ?_
  refine V_istore_n (L' := [(1, .int (gI 0)), (0, .ref (cxA X 69))]) rfl (by decide) rfl dX12_findSaid_1 ?_
  exact V_sub [1, 0] rfl h
set_option maxHeartbeats 2000000 in
set_option maxRecDepth 20000 in
theorem rX12_findSaid_2 {X : Cx} {v1 : Int} {σ : Sg} {Q : Int → Sg → Prop} (h : Rng σ → (inI v1) ∧ (((σ 69 0) ≤ v1 → Q 0 σ) ∧ (v1 < (σ 69 0) → (0 ≤ v1 ∧ v1 < 8) ∧ GX12_findSaid_21 X v1 0 0 (up2 σ 96 v1.toNat ((-1))) Q))) : GX12_findSaid_2 X v1 σ Q := by
  unfold GX12_findSaid_2
  refine V_rng (fun hR0 => ?_)
  have h := h hR0
  refine V_iload_n 1 rfl rfl dX12_findSaid_2 ?_
  refine V_aload_n 0 rfl rfl dX12_findSaid_3 ?_
  refine V_getI (f := 0) ci_X12 sh_69 rfl (by decide) dX12_findSaid_4 lk_RX12_f98 ?_
  obtain ⟨g1, h⟩ := h
  refine V_icmp_ge (tgt := 106) dX12_findSaid_7 (by decide) g1 (show inI (σ 69 0) from (hR0.1 69 0 (by decide))) (fun q2 => ?_) (fun q2 => ?_)
  · have h := h.1 q2
    exact V_vret rfl dX12_findSaid_106 h
  · have h := h.2 q2
    refine V_aload_n 0 rfl rfl dX12_findSaid_10 ?_
    refine V_getR (f := 36) ci_X12 sh_69 rfl (by decide) (c1 := 96) rfl dX12_findSaid_11 lk_RX12_f89 ?_
    refine V_iload_n 1 rfl rfl dX12_findSaid_14 ?_
    refine V_iconst dX12_findSaid_15 ?_
    obtain ⟨g3, h⟩ := h
    refine V_iast sh_96 (by decide) g3 (by decide) dX12_findSaid_16 ?_
    refine V_iconst dX12_findSaid_17 ?_
    refine V_istore_n (L' := [(2, .int (gI 0)), (0, .ref (cxA X 69)), (1, .int (gI v1))]) rfl (by decide) rfl dX12_findSaid_18 ?_
    refine V_iconst dX12_findSaid_19 ?_
    refine V_istore_n (L' := [(3, .int (gI 0)), (2, .int (gI 0)), (0, .ref (cxA X 69)), (1, .int (gI v1))]) rfl (by decide) rfl dX12_findSaid_20 ?_
    exact V_sub [2, 3, 1, 0] rfl h
set_option maxHeartbeats 2000000 in
set_option maxRecDepth 20000 in
theorem rX12_findSaid_21 {X : Cx} {v1 : Int} {v2 : Int} {v3 : Int} {σ : Sg} {Q : Int → Sg → Prop} (h : Rng σ → (inI v3) ∧ (((σ 69 20) ≤ v3 → GX12_findSaid_2 X (v1 + 1) σ Q) ∧ (v3 < (σ 69 20) → KX12_recall X v3 σ (fun r3 σ4 => Rng σ4 → (0 ≤ v3 ∧ v3 < 8) ∧ KX12_bits X (σ4 94 v3.toNat) σ4 (fun r7 σ8 => Rng σ8 → KX12_costTold X σ8 (fun r10 σ11 => Rng σ11 → (0 ≤ v3 ∧ v3 < 8) ∧ ((¬ (zand (zshr (σ11 94 v3.toNat) v1) 1) = 1 → GX12_findSaid_94 X v1 v2 v3 ((1000 * r7) + r10) σ11 Q) ∧ ((zand (zshr (σ11 94 v3.toNat) v1) 1) = 1 → (0 ≤ v1 ∧ v1 < 8) ∧ (((σ11 96 v1.toNat) = ((-1)) → GX12_findSaid_84 X v1 v2 v3 ((1000 * r7) + r10) σ11 Q) ∧ (¬ (σ11 96 v1.toNat) = ((-1)) → (inI ((1000 * r7) + r10)) ∧ (inI v2) ∧ ((v2 ≤ ((1000 * r7) + r10) → GX12_findSaid_94 X v1 v2 v3 ((1000 * r7) + r10) σ11 Q) ∧ (((1000 * r7) + r10) < v2 → GX12_findSaid_84 X v1 v2 v3 ((1000 * r7) + r10) σ11 Q)))))))))))) : GX12_findSaid_21 X v1 v2 v3 σ Q := by
  unfold GX12_findSaid_21
  refine V_rng (fun hR0 => ?_)
  have h := h hR0
  refine V_iload_n 3 rfl rfl dX12_findSaid_21 ?_
  refine V_aload_n 0 rfl rfl dX12_findSaid_22 ?_
  refine V_getI (f := 20) ci_X12 sh_69 rfl (by decide) dX12_findSaid_23 lk_RX12_f228 ?_
  obtain ⟨g1, h⟩ := h
  refine V_icmp_ge (tgt := 100) dX12_findSaid_26 (by decide) g1 (show inI (σ 69 20) from (hR0.1 69 20 (by decide))) (fun q2 => ?_) (fun q2 => ?_)
  · have h := h.1 q2
    refine V_iinc (L' := [(1, .int (gI (v1 + 1))), (0, .ref (cxA X 69)), (2, .int (gI v2)), (3, .int (gI v3))]) 1 rfl (by decide) rfl dX12_findSaid_100 ?_
    refine V_goto (tgt := 2) dX12_findSaid_103 (by decide) ?_
    exact V_sub [1, 0] rfl h
  · have h := h.2 q2
    refine V_aload_n 0 rfl rfl dX12_findSaid_29 ?_
    refine V_iload_n 3 rfl rfl dX12_findSaid_30 ?_
    refine V_cV (M' := mX12_recall) (As := [.int (gI v3)]) (fun _ => []) ok_X12_recall ok2_X12_recall sh_69 rfl (by decide) rfl rfl (Nat.le_of_ble_eq_true rfl) dX12_findSaid_31 lk_RX12_m231 (by decide) (fun _ => rfl) h (fun r3 σ4 h => ?_)
    refine V_rng (fun hR5 => ?_)
    have h := h hR5
    refine V_sipush (v := 1000) (by decide) dX12_findSaid_34 ?_
    refine V_aload_n 0 rfl rfl dX12_findSaid_37 ?_
    refine V_getR (f := 34) ci_X12 sh_69 rfl (by decide) (c1 := 94) rfl dX12_findSaid_38 lk_RX12_f83 ?_
    refine V_iload_n 3 rfl rfl dX12_findSaid_41 ?_
    obtain ⟨g6, h⟩ := h
    refine V_iald sh_94 (by decide) g6 dX12_findSaid_42 ?_
    refine V_cS (M' := mX12_bits) (As := [.int (gI (σ4 94 v3.toNat))]) (fun r => [.int (gI r), .int (gI 1000)]) ok_X12_bits ok2_X12_bits rfl rfl (Nat.le_of_ble_eq_true rfl) dX12_findSaid_43 lk_RX12_m110 (by decide) (fun _ => rfl) h (fun r7 σ8 h => ?_)
    refine V_rng (fun hR9 => ?_)
    have h := h hR9
    refine V_imul dX12_findSaid_46 ?_
    refine V_aload_n 0 rfl rfl dX12_findSaid_47 ?_
    refine V_cV (M' := mX12_costTold) (As := []) (fun r => [.int (gI r), .int (gI (1000 * r7))]) ok_X12_costTold ok2_X12_costTold sh_69 rfl (by decide) rfl rfl (Nat.le_of_ble_eq_true rfl) dX12_findSaid_48 lk_RX12_m225 (by decide) (fun _ => rfl) h (fun r10 σ11 h => ?_)
    refine V_rng (fun hR12 => ?_)
    have h := h hR12
    refine V_iadd dX12_findSaid_51 ?_
    refine V_istore (L' := [(4, .int (gI ((1000 * r7) + r10))), (0, .ref (cxA X 69)), (1, .int (gI v1)), (2, .int (gI v2)), (3, .int (gI v3))]) (by decide) rfl dX12_findSaid_52 ?_
    refine V_aload_n 1 rfl rfl dX12_findSaid_54 ?_
    refine V_getR (f := 34) ci_X12 sh_69 rfl (by decide) (c1 := 94) rfl dX12_findSaid_55 lk_RX12_f83 ?_
    refine V_iload_n 4 rfl rfl dX12_findSaid_58 ?_
    obtain ⟨g13, h⟩ := h
    refine V_iald sh_94 (by decide) g13 dX12_findSaid_59 ?_
    refine V_iload_n 2 rfl rfl dX12_findSaid_60 ?_
    refine V_ishr dX12_findSaid_61 ?_
    refine V_iconst dX12_findSaid_62 ?_
    refine V_iand dX12_findSaid_63 ?_
    refine V_iconst dX12_findSaid_64 ?_
    refine V_icmp_ne (tgt := 94) dX12_findSaid_65 (by decide) (inI_z _) (by decide) (fun q14 => ?_) (fun q14 => ?_)
    · have h := h.1 q14
      exact V_sub [1, 2, 3, 4, 0] rfl h
    · have h := h.2 q14
      refine V_aload_n 1 rfl rfl dX12_findSaid_68 ?_
      refine V_getR (f := 36) ci_X12 sh_69 rfl (by decide) (c1 := 96) rfl dX12_findSaid_69 lk_RX12_f89 ?_
      refine V_iload_n 2 rfl rfl dX12_findSaid_72 ?_
      obtain ⟨g15, h⟩ := h
      refine V_iald sh_96 (by decide) g15 dX12_findSaid_73 ?_
      refine V_iconst dX12_findSaid_74 ?_
      refine V_icmp_eq (tgt := 84) dX12_findSaid_75 (by decide) (show inI (σ11 96 v1.toNat) from (inI_sh hR12 sh_96 (by decide))) (by decide) (fun q16 => ?_) (fun q16 => ?_)
      · have h := h.1 q16
        exact V_sub [1, 2, 3, 4, 0] rfl h
      · have h := h.2 q16
        refine V_iload 0 rfl dX12_findSaid_78 ?_
        refine V_iload_n 3 rfl rfl dX12_findSaid_80 ?_
        obtain ⟨g17, h⟩ := h
        obtain ⟨g18, h⟩ := h
        refine V_icmp_ge (tgt := 94) dX12_findSaid_81 (by decide) g17 g18 (fun q19 => ?_) (fun q19 => ?_)
        · have h := h.1 q19
          exact V_sub [1, 2, 3, 4, 0] rfl h
        · have h := h.2 q19
          exact V_sub [1, 2, 3, 4, 0] rfl h
set_option maxHeartbeats 2000000 in
set_option maxRecDepth 20000 in
theorem rX12_findSaid_84 {X : Cx} {v1 : Int} {v2 : Int} {v3 : Int} {v4 : Int} {σ : Sg} {Q : Int → Sg → Prop} (h : Rng σ → (0 ≤ v1 ∧ v1 < 8) ∧ (inI v3) ∧ GX12_findSaid_94 X v1 v4 v3 v4 (up2 σ 96 v1.toNat v3) Q) : GX12_findSaid_84 X v1 v2 v3 v4 σ Q := by
  unfold GX12_findSaid_84
  refine V_rng (fun hR0 => ?_)
  have h := h hR0
  refine V_aload_n 0 rfl rfl dX12_findSaid_84 ?_
  refine V_getR (f := 36) ci_X12 sh_69 rfl (by decide) (c1 := 96) rfl dX12_findSaid_85 lk_RX12_f89 ?_
  refine V_iload_n 1 rfl rfl dX12_findSaid_88 ?_
  refine V_iload_n 3 rfl rfl dX12_findSaid_89 ?_
  obtain ⟨g1, h⟩ := h
  obtain ⟨g2, h⟩ := h
  refine V_iast sh_96 (by decide) g1 g2 dX12_findSaid_90 ?_
  refine V_iload 4 rfl dX12_findSaid_91 ?_
  refine V_istore_n (L' := [(2, .int (gI v4)), (0, .ref (cxA X 69)), (1, .int (gI v1)), (3, .int (gI v3)), (4, .int (gI v4))]) rfl (by decide) rfl dX12_findSaid_93 ?_
  exact V_sub [1, 2, 0, 3, 4] rfl h
set_option maxHeartbeats 2000000 in
set_option maxRecDepth 20000 in
theorem rX12_findSaid_94 {X : Cx} {v1 : Int} {v2 : Int} {v3 : Int} {v4 : Int} {σ : Sg} {Q : Int → Sg → Prop} (h : Rng σ → GX12_findSaid_21 X v1 v2 (v3 + 1) σ Q) : GX12_findSaid_94 X v1 v2 v3 v4 σ Q := by
  unfold GX12_findSaid_94
  refine V_rng (fun hR0 => ?_)
  have h := h hR0
  refine V_iinc (L' := [(3, .int (gI (v3 + 1))), (0, .ref (cxA X 69)), (1, .int (gI v1)), (2, .int (gI v2)), (4, .int (gI v4))]) 3 rfl (by decide) rfl dX12_findSaid_94 ?_
  refine V_goto (tgt := 21) dX12_findSaid_97 (by decide) ?_
  exact V_sub [1, 2, 3, 0] rfl h
theorem eX12_findSaid {X : Cx} {σ : Sg} {Q : Int → Sg → Prop} (h : GX12_findSaid_0 X σ Q) : KX12_findSaid X σ Q := V_enter (by decide) (Nat.le_of_ble_eq_true rfl) rfl h
def GX12_think_0 (X : Cx) (v1 : Int) (σ : Sg) (Q : Int → Sg → Prop) : Prop := VV X mX12_think 0 [(0, .ref (cxA X 69)), (1, .int (gI v1))] [] σ Q
def GX12_think_2 (X : Cx) (v1 : Int) (v2 : Int) (σ : Sg) (Q : Int → Sg → Prop) : Prop := VV X mX12_think 2 [(0, .ref (cxA X 69)), (1, .int (gI v1)), (2, .int (gI v2))] [] σ Q
def GX12_think_33 (X : Cx) (v1 : Int) (v2 : Int) (σ : Sg) (Q : Int → Sg → Prop) : Prop := VV X mX12_think 33 [(0, .ref (cxA X 69)), (1, .int (gI v1)), (2, .int (gI v2))] [] σ Q
def GX12_think_44 (X : Cx) (v1 : Int) (v2 : Int) (v3 : Int) (σ : Sg) (Q : Int → Sg → Prop) : Prop := VV X mX12_think 44 [(0, .ref (cxA X 69)), (1, .int (gI v1)), (2, .int (gI v2)), (3, .int (gI v3))] [] σ Q
def GX12_think_62 (X : Cx) (v1 : Int) (v2 : Int) (v3 : Int) (v4 : Int) (σ : Sg) (Q : Int → Sg → Prop) : Prop := VV X mX12_think 62 [(0, .ref (cxA X 69)), (1, .int (gI v1)), (2, .int (gI v2)), (3, .int (gI v3)), (4, .int (gI v4))] [] σ Q
def GX12_think_101 (X : Cx) (v1 : Int) (v2 : Int) (v3 : Int) (v4 : Int) (s0 : Int) (s1 : Int) (s2 : Int) (σ : Sg) (Q : Int → Sg → Prop) : Prop := VV X mX12_think 101 [(0, .ref (cxA X 69)), (1, .int (gI v1)), (2, .int (gI v2)), (3, .int (gI v3)), (4, .int (gI v4))] [.int (gI s0), .int (gI s1), .int (gI s2), .ref (cxA X 95)] σ Q
def GX12_think_117 (X : Cx) (v1 : Int) (v2 : Int) (v3 : Int) (σ : Sg) (Q : Int → Sg → Prop) : Prop := VV X mX12_think 117 [(0, .ref (cxA X 69)), (1, .int (gI v1)), (2, .int (gI v2)), (3, .int (gI v3))] [] σ Q
def GX12_think_154 (X : Cx) (v1 : Int) (v2 : Int) (v3 : Int) (s0 : Int) (s1 : Int) (σ : Sg) (Q : Int → Sg → Prop) : Prop := VV X mX12_think 154 [(0, .ref (cxA X 69)), (1, .int (gI v1)), (2, .int (gI v2)), (3, .int (gI v3))] [.int (gI s0), .int (gI s1), .ref (cxA X 94)] σ Q
set_option maxHeartbeats 2000000 in
set_option maxRecDepth 20000 in
theorem rX12_think_0 {X : Cx} {v1 : Int} {σ : Sg} {Q : Int → Sg → Prop} (h : Rng σ → GX12_think_2 X v1 0 σ Q) : GX12_think_0 X v1 σ Q := by
  unfold GX12_think_0
  refine V_rng (fun hR0 => ?_)
  have h := h hR0
  refine V_iconst dX12_think_0 ?_
  refine V_istore_n (L' := [(2, .int (gI 0)), (0, .ref (cxA X 69)), (1, .int (gI v1))]) rfl (by decide) rfl dX12_think_1 ?_
  exact V_sub [1, 2, 0] rfl h
set_option maxHeartbeats 2000000 in
set_option maxRecDepth 20000 in
theorem rX12_think_2 {X : Cx} {v1 : Int} {v2 : Int} {σ : Sg} {Q : Int → Sg → Prop} (h : Rng σ → (inI v2) ∧ (((σ 69 20) ≤ v2 → GX12_think_33 X v1 0 σ Q) ∧ (v2 < (σ 69 20) → KX12_recall X v2 σ (fun r3 σ4 => Rng σ4 → KX12_meaning X σ4 (fun r6 σ7 => Rng σ7 → (0 ≤ v2 ∧ v2 < 8) ∧ (inI r6) ∧ GX12_think_2 X v1 (v2 + 1) (up2 σ7 94 v2.toNat r6) Q))))) : GX12_think_2 X v1 v2 σ Q := by
  unfold GX12_think_2
  refine V_rng (fun hR0 => ?_)
  have h := h hR0
  refine V_iload_n 2 rfl rfl dX12_think_2 ?_
  refine V_aload_n 0 rfl rfl dX12_think_3 ?_
  refine V_getI (f := 20) ci_X12 sh_69 rfl (by decide) dX12_think_4 lk_RX12_f228 ?_
  obtain ⟨g1, h⟩ := h
  refine V_icmp_ge (tgt := 31) dX12_think_7 (by decide) g1 (show inI (σ 69 20) from (hR0.1 69 20 (by decide))) (fun q2 => ?_) (fun q2 => ?_)
  · have h := h.1 q2
    refine V_iconst dX12_think_31 ?_
    refine V_istore_n (L' := [(2, .int (gI 0)), (0, .ref (cxA X 69)), (1, .int (gI v1))]) rfl (by decide) rfl dX12_think_32 ?_
    exact V_sub [1, 2, 0] rfl h
  · have h := h.2 q2
    refine V_aload_n 0 rfl rfl dX12_think_10 ?_
    refine V_iload_n 2 rfl rfl dX12_think_11 ?_
    refine V_cV (M' := mX12_recall) (As := [.int (gI v2)]) (fun _ => []) ok_X12_recall ok2_X12_recall sh_69 rfl (by decide) rfl rfl (Nat.le_of_ble_eq_true rfl) dX12_think_12 lk_RX12_m231 (by decide) (fun _ => rfl) h (fun r3 σ4 h => ?_)
    refine V_rng (fun hR5 => ?_)
    have h := h hR5
    refine V_aload_n 0 rfl rfl dX12_think_15 ?_
    refine V_getR (f := 34) ci_X12 sh_69 rfl (by decide) (c1 := 94) rfl dX12_think_16 lk_RX12_f83 ?_
    refine V_iload_n 2 rfl rfl dX12_think_19 ?_
    refine V_aload_n 0 rfl rfl dX12_think_20 ?_
    refine V_cV (M' := mX12_meaning) (As := []) (fun r => [.int (gI r), .int (gI v2), .ref (cxA X 94)]) ok_X12_meaning ok2_X12_meaning sh_69 rfl (by decide) rfl rfl (Nat.le_of_ble_eq_true rfl) dX12_think_21 lk_RX12_m222 (by decide) (fun _ => rfl) h (fun r6 σ7 h => ?_)
    refine V_rng (fun hR8 => ?_)
    have h := h hR8
    obtain ⟨g9, h⟩ := h
    obtain ⟨g10, h⟩ := h
    refine V_iast sh_94 (by decide) g9 g10 dX12_think_24 ?_
    refine V_iinc (L' := [(2, .int (gI (v2 + 1))), (0, .ref (cxA X 69)), (1, .int (gI v1))]) 2 rfl (by decide) rfl dX12_think_25 ?_
    refine V_goto (tgt := 2) dX12_think_28 (by decide) ?_
    exact V_sub [1, 2, 0] rfl h
set_option maxHeartbeats 2000000 in
set_option maxRecDepth 20000 in
theorem rX12_think_33 {X : Cx} {v1 : Int} {v2 : Int} {σ : Sg} {Q : Int → Sg → Prop} (h : Rng σ → (inI v2) ∧ (inI v1) ∧ ((v1 ≤ v2 → Q 0 σ) ∧ (v2 < v1 → KX12_findSaid X σ (fun r4 σ5 => Rng σ5 → GX12_think_44 X v1 v2 0 σ5 Q)))) : GX12_think_33 X v1 v2 σ Q := by
  unfold GX12_think_33
  refine V_rng (fun hR0 => ?_)
  have h := h hR0
  refine V_iload_n 2 rfl rfl dX12_think_33 ?_
  refine V_iload_n 1 rfl rfl dX12_think_34 ?_
  obtain ⟨g1, h⟩ := h
  obtain ⟨g2, h⟩ := h
  refine V_icmp_ge (tgt := 167) dX12_think_35 (by decide) g1 g2 (fun q3 => ?_) (fun q3 => ?_)
  · have h := h.1 q3
    exact V_vret rfl dX12_think_167 h
  · have h := h.2 q3
    refine V_aload_n 0 rfl rfl dX12_think_38 ?_
    refine V_cV (M' := mX12_findSaid) (As := []) (fun _ => []) ok_X12_findSaid ok2_X12_findSaid sh_69 rfl (by decide) rfl rfl (Nat.le_of_ble_eq_true rfl) dX12_think_39 lk_RX12_m267 (by decide) (fun _ => rfl) h (fun r4 σ5 h => ?_)
    refine V_rng (fun hR6 => ?_)
    have h := h hR6
    refine V_iconst dX12_think_42 ?_
    refine V_istore_n (L' := [(3, .int (gI 0)), (0, .ref (cxA X 69)), (1, .int (gI v1)), (2, .int (gI v2))]) rfl (by decide) rfl dX12_think_43 ?_
    exact V_sub [1, 2, 3, 0] rfl h
set_option maxHeartbeats 2000000 in
set_option maxRecDepth 20000 in
theorem rX12_think_44 {X : Cx} {v1 : Int} {v2 : Int} {v3 : Int} {σ : Sg} {Q : Int → Sg → Prop} (h : Rng σ → (inI v3) ∧ (((σ 69 20) ≤ v3 → GX12_think_117 X v1 v2 0 σ Q) ∧ (v3 < (σ 69 20) → (0 ≤ v3 ∧ v3 < 8) ∧ GX12_think_62 X v1 v2 v3 0 (up2 σ 95 v3.toNat 0) Q))) : GX12_think_44 X v1 v2 v3 σ Q := by
  unfold GX12_think_44
  refine V_rng (fun hR0 => ?_)
  have h := h hR0
  refine V_iload_n 3 rfl rfl dX12_think_44 ?_
  refine V_aload_n 0 rfl rfl dX12_think_45 ?_
  refine V_getI (f := 20) ci_X12 sh_69 rfl (by decide) dX12_think_46 lk_RX12_f228 ?_
  obtain ⟨g1, h⟩ := h
  refine V_icmp_ge (tgt := 115) dX12_think_49 (by decide) g1 (show inI (σ 69 20) from (hR0.1 69 20 (by decide))) (fun q2 => ?_) (fun q2 => ?_)
  · have h := h.1 q2
    refine V_iconst dX12_think_115 ?_
    refine V_istore_n (L' := [(3, .int (gI 0)), (0, .ref (cxA X 69)), (1, .int (gI v1)), (2, .int (gI v2))]) rfl (by decide) rfl dX12_think_116 ?_
    exact V_sub [1, 2, 3, 0] rfl h
  · have h := h.2 q2
    refine V_aload_n 0 rfl rfl dX12_think_52 ?_
    refine V_getR (f := 35) ci_X12 sh_69 rfl (by decide) (c1 := 95) rfl dX12_think_53 lk_RX12_f86 ?_
    refine V_iload_n 3 rfl rfl dX12_think_56 ?_
    refine V_iconst dX12_think_57 ?_
    obtain ⟨g3, h⟩ := h
    refine V_iast sh_95 (by decide) g3 (by decide) dX12_think_58 ?_
    refine V_iconst dX12_think_59 ?_
    refine V_istore (L' := [(4, .int (gI 0)), (0, .ref (cxA X 69)), (1, .int (gI v1)), (2, .int (gI v2)), (3, .int (gI v3))]) (by decide) rfl dX12_think_60 ?_
    exact V_sub [1, 2, 3, 4, 0] rfl h
set_option maxHeartbeats 2000000 in
set_option maxRecDepth 20000 in
theorem rX12_think_62 {X : Cx} {v1 : Int} {v2 : Int} {v3 : Int} {v4 : Int} {σ : Sg} {Q : Int → Sg → Prop} (h : Rng σ → (inI v4) ∧ (((σ 69 0) ≤ v4 → GX12_think_44 X v1 v2 (v3 + 1) σ Q) ∧ (v4 < (σ 69 0) → (0 ≤ v3 ∧ v3 < 8) ∧ (0 ≤ v4 ∧ v4 < 8) ∧ (inI v3) ∧ ((¬ (σ 96 v4.toNat) = v3 → GX12_think_101 X v1 v2 v3 v4 0 (σ 95 v3.toNat) v3 σ Q) ∧ ((σ 96 v4.toNat) = v3 → GX12_think_101 X v1 v2 v3 v4 (zshl 1 v4) (σ 95 v3.toNat) v3 σ Q))))) : GX12_think_62 X v1 v2 v3 v4 σ Q := by
  unfold GX12_think_62
  refine V_rng (fun hR0 => ?_)
  have h := h hR0
  refine V_iload 4 rfl dX12_think_62 ?_
  refine V_aload_n 0 rfl rfl dX12_think_64 ?_
  refine V_getI (f := 0) ci_X12 sh_69 rfl (by decide) dX12_think_65 lk_RX12_f98 ?_
  obtain ⟨g1, h⟩ := h
  refine V_icmp_ge (tgt := 109) dX12_think_68 (by decide) g1 (show inI (σ 69 0) from (hR0.1 69 0 (by decide))) (fun q2 => ?_) (fun q2 => ?_)
  · have h := h.1 q2
    refine V_iinc (L' := [(3, .int (gI (v3 + 1))), (0, .ref (cxA X 69)), (1, .int (gI v1)), (2, .int (gI v2)), (4, .int (gI v4))]) 3 rfl (by decide) rfl dX12_think_109 ?_
    refine V_goto (tgt := 44) dX12_think_112 (by decide) ?_
    exact V_sub [1, 2, 3, 0] rfl h
  · have h := h.2 q2
    refine V_aload_n 0 rfl rfl dX12_think_71 ?_
    refine V_getR (f := 35) ci_X12 sh_69 rfl (by decide) (c1 := 95) rfl dX12_think_72 lk_RX12_f86 ?_
    refine V_iload_n 3 rfl rfl dX12_think_75 ?_
    refine V_aload_n 0 rfl rfl dX12_think_76 ?_
    refine V_getR (f := 35) ci_X12 sh_69 rfl (by decide) (c1 := 95) rfl dX12_think_77 lk_RX12_f86 ?_
    refine V_iload_n 3 rfl rfl dX12_think_80 ?_
    obtain ⟨g3, h⟩ := h
    refine V_iald sh_95 (by decide) g3 dX12_think_81 ?_
    refine V_aload_n 0 rfl rfl dX12_think_82 ?_
    refine V_getR (f := 36) ci_X12 sh_69 rfl (by decide) (c1 := 96) rfl dX12_think_83 lk_RX12_f89 ?_
    refine V_iload 4 rfl dX12_think_86 ?_
    obtain ⟨g4, h⟩ := h
    refine V_iald sh_96 (by decide) g4 dX12_think_88 ?_
    refine V_iload_n 3 rfl rfl dX12_think_89 ?_
    obtain ⟨g5, h⟩ := h
    refine V_icmp_ne (tgt := 100) dX12_think_90 (by decide) (show inI (σ 96 v4.toNat) from (inI_sh hR0 sh_96 (by decide))) g5 (fun q6 => ?_) (fun q6 => ?_)
    · have h := h.1 q6
      refine V_iconst dX12_think_100 ?_
      exact h
    · have h := h.2 q6
      refine V_iconst dX12_think_93 ?_
      refine V_iload 4 rfl dX12_think_94 ?_
      refine V_ishl dX12_think_96 ?_
      refine V_goto (tgt := 101) dX12_think_97 (by decide) ?_
      exact h
set_option maxHeartbeats 2000000 in
set_option maxRecDepth 20000 in
theorem rX12_think_101 {X : Cx} {v1 : Int} {v2 : Int} {v3 : Int} {v4 : Int} {s0 : Int} {s1 : Int} {s2 : Int} {σ : Sg} {Q : Int → Sg → Prop} (h : Rng σ → (0 ≤ s2 ∧ s2 < 8) ∧ GX12_think_62 X v1 v2 v3 (v4 + 1) (up2 σ 95 s2.toNat (zor s1 s0)) Q) : GX12_think_101 X v1 v2 v3 v4 s0 s1 s2 σ Q := by
  unfold GX12_think_101
  refine V_rng (fun hR0 => ?_)
  have h := h hR0
  refine V_ior dX12_think_101 ?_
  obtain ⟨g1, h⟩ := h
  refine V_iast sh_95 (by decide) g1 (inI_z _) dX12_think_102 ?_
  refine V_iinc (L' := [(4, .int (gI (v4 + 1))), (0, .ref (cxA X 69)), (1, .int (gI v1)), (2, .int (gI v2)), (3, .int (gI v3))]) 4 rfl (by decide) rfl dX12_think_103 ?_
  refine V_goto (tgt := 62) dX12_think_106 (by decide) ?_
  exact V_sub [1, 2, 3, 4, 0] rfl h
set_option maxHeartbeats 2000000 in
set_option maxRecDepth 20000 in
theorem rX12_think_117 {X : Cx} {v1 : Int} {v2 : Int} {v3 : Int} {σ : Sg} {Q : Int → Sg → Prop} (h : Rng σ → (inI v3) ∧ (((σ 69 20) ≤ v3 → GX12_think_33 X v1 (v2 + 1) σ Q) ∧ (v3 < (σ 69 20) → (0 ≤ v3 ∧ v3 < 8) ∧ ((¬ (σ 95 v3.toNat) = 0 → (0 ≤ v3 ∧ v3 < 8) ∧ GX12_think_154 X v1 v2 v3 (σ 95 v3.toNat) v3 σ Q) ∧ ((σ 95 v3.toNat) = 0 → (0 ≤ v3 ∧ v3 < 8) ∧ GX12_think_154 X v1 v2 v3 (σ 94 v3.toNat) v3 σ Q))))) : GX12_think_117 X v1 v2 v3 σ Q := by
  unfold GX12_think_117
  refine V_rng (fun hR0 => ?_)
  have h := h hR0
  refine V_iload_n 3 rfl rfl dX12_think_117 ?_
  refine V_aload_n 0 rfl rfl dX12_think_118 ?_
  refine V_getI (f := 20) ci_X12 sh_69 rfl (by decide) dX12_think_119 lk_RX12_f228 ?_
  obtain ⟨g1, h⟩ := h
  refine V_icmp_ge (tgt := 161) dX12_think_122 (by decide) g1 (show inI (σ 69 20) from (hR0.1 69 20 (by decide))) (fun q2 => ?_) (fun q2 => ?_)
  · have h := h.1 q2
    refine V_iinc (L' := [(2, .int (gI (v2 + 1))), (0, .ref (cxA X 69)), (1, .int (gI v1)), (3, .int (gI v3))]) 2 rfl (by decide) rfl dX12_think_161 ?_
    refine V_goto (tgt := 33) dX12_think_164 (by decide) ?_
    exact V_sub [1, 2, 0] rfl h
  · have h := h.2 q2
    refine V_aload_n 0 rfl rfl dX12_think_125 ?_
    refine V_getR (f := 34) ci_X12 sh_69 rfl (by decide) (c1 := 94) rfl dX12_think_126 lk_RX12_f83 ?_
    refine V_iload_n 3 rfl rfl dX12_think_129 ?_
    refine V_aload_n 0 rfl rfl dX12_think_130 ?_
    refine V_getR (f := 35) ci_X12 sh_69 rfl (by decide) (c1 := 95) rfl dX12_think_131 lk_RX12_f86 ?_
    refine V_iload_n 3 rfl rfl dX12_think_134 ?_
    obtain ⟨g3, h⟩ := h
    refine V_iald sh_95 (by decide) g3 dX12_think_135 ?_
    refine V_if_ne (tgt := 148) dX12_think_136 (by decide) (show inI (σ 95 v3.toNat) from (inI_sh hR0 sh_95 (by decide))) (fun q4 => ?_) (fun q4 => ?_)
    · have h := h.1 q4
      refine V_aload_n 0 rfl rfl dX12_think_148 ?_
      refine V_getR (f := 35) ci_X12 sh_69 rfl (by decide) (c1 := 95) rfl dX12_think_149 lk_RX12_f86 ?_
      refine V_iload_n 3 rfl rfl dX12_think_152 ?_
      obtain ⟨g5, h⟩ := h
      refine V_iald sh_95 (by decide) g5 dX12_think_153 ?_
      exact h
    · have h := h.2 q4
      refine V_aload_n 0 rfl rfl dX12_think_139 ?_
      refine V_getR (f := 34) ci_X12 sh_69 rfl (by decide) (c1 := 94) rfl dX12_think_140 lk_RX12_f83 ?_
      refine V_iload_n 3 rfl rfl dX12_think_143 ?_
      obtain ⟨g6, h⟩ := h
      refine V_iald sh_94 (by decide) g6 dX12_think_144 ?_
      refine V_goto (tgt := 154) dX12_think_145 (by decide) ?_
      exact h
set_option maxHeartbeats 2000000 in
set_option maxRecDepth 20000 in
theorem rX12_think_154 {X : Cx} {v1 : Int} {v2 : Int} {v3 : Int} {s0 : Int} {s1 : Int} {σ : Sg} {Q : Int → Sg → Prop} (h : Rng σ → (0 ≤ s1 ∧ s1 < 8) ∧ (inI s0) ∧ GX12_think_117 X v1 v2 (v3 + 1) (up2 σ 94 s1.toNat s0) Q) : GX12_think_154 X v1 v2 v3 s0 s1 σ Q := by
  unfold GX12_think_154
  refine V_rng (fun hR0 => ?_)
  have h := h hR0
  obtain ⟨g1, h⟩ := h
  obtain ⟨g2, h⟩ := h
  refine V_iast sh_94 (by decide) g1 g2 dX12_think_154 ?_
  refine V_iinc (L' := [(3, .int (gI (v3 + 1))), (0, .ref (cxA X 69)), (1, .int (gI v1)), (2, .int (gI v2))]) 3 rfl (by decide) rfl dX12_think_155 ?_
  refine V_goto (tgt := 117) dX12_think_158 (by decide) ?_
  exact V_sub [1, 2, 3, 0] rfl h
theorem eX12_think {X : Cx} {v1 : Int} {σ : Sg} {Q : Int → Sg → Prop} (h : GX12_think_0 X v1 σ Q) : KX12_think X v1 σ Q := V_enter (by decide) (Nat.le_of_ble_eq_true rfl) rfl h
def GX12_hears_0 (X : Cx) (v1 : Int) (v2 : Int) (σ : Sg) (Q : Int → Sg → Prop) : Prop := VV X mX12_hears 0 [(0, .ref (cxA X 69)), (1, .int (gI v1)), (2, .int (gI v2))] [] σ Q
set_option maxHeartbeats 2000000 in
set_option maxRecDepth 20000 in
theorem rX12_hears_0 {X : Cx} {v1 : Int} {v2 : Int} {σ : Sg} {Q : Int → Sg → Prop} (h : Rng σ → KX12_in X v1 0 ((σ 69 20) - 1) σ (fun r1 σ2 => Rng σ2 → (inI r1) ∧ ((¬ r1 = 0 → KX12_in X v2 0 20 σ2 (fun r6 σ7 => Rng σ7 → (inI r6) ∧ ((¬ r6 = 0 → KX12_think X v2 σ7 (fun r11 σ12 => Rng σ12 → (0 ≤ v1 ∧ v1 < 8) ∧ Q (σ12 94 v1.toNat) σ12)) ∧ (r6 = 0 → Q ((-3)) σ7)))) ∧ (r1 = 0 → Q ((-2)) σ2)))) : GX12_hears_0 X v1 v2 σ Q := by
  unfold GX12_hears_0
  refine V_rng (fun hR0 => ?_)
  have h := h hR0
  refine V_iload_n 1 rfl rfl dX12_hears_0 ?_
  refine V_iconst dX12_hears_1 ?_
  refine V_aload_n 0 rfl rfl dX12_hears_2 ?_
  refine V_getI (f := 20) ci_X12 sh_69 rfl (by decide) dX12_hears_3 lk_RX12_f228 ?_
  refine V_iconst dX12_hears_6 ?_
  refine V_isub dX12_hears_7 ?_
  refine V_cS (M' := mX12_in) (As := [.int (gI v1), .int (gI 0), .int (gI ((σ 69 20) - 1))]) (fun r => [.int (gI r)]) ok_X12_in ok2_X12_in rfl rfl (Nat.le_of_ble_eq_true rfl) dX12_hears_8 lk_RX12_m102 (by decide) (fun _ => rfl) h (fun r1 σ2 h => ?_)
  refine V_rng (fun hR3 => ?_)
  have h := h hR3
  obtain ⟨g4, h⟩ := h
  refine V_if_ne (tgt := 17) dX12_hears_11 (by decide) g4 (fun q5 => ?_) (fun q5 => ?_)
  · have h := h.1 q5
    refine V_iload_n 2 rfl rfl dX12_hears_17 ?_
    refine V_iconst dX12_hears_18 ?_
    refine V_bipush (v := 20) (by decide) dX12_hears_19 ?_
    refine V_cS (M' := mX12_in) (As := [.int (gI v2), .int (gI 0), .int (gI 20)]) (fun r => [.int (gI r)]) ok_X12_in ok2_X12_in rfl rfl (Nat.le_of_ble_eq_true rfl) dX12_hears_21 lk_RX12_m102 (by decide) (fun _ => rfl) h (fun r6 σ7 h => ?_)
    refine V_rng (fun hR8 => ?_)
    have h := h hR8
    obtain ⟨g9, h⟩ := h
    refine V_if_ne (tgt := 30) dX12_hears_24 (by decide) g9 (fun q10 => ?_) (fun q10 => ?_)
    · have h := h.1 q10
      refine V_aload_n 0 rfl rfl dX12_hears_30 ?_
      refine V_iload_n 2 rfl rfl dX12_hears_31 ?_
      refine V_cV (M' := mX12_think) (As := [.int (gI v2)]) (fun _ => []) ok_X12_think ok2_X12_think sh_69 rfl (by decide) rfl rfl (Nat.le_of_ble_eq_true rfl) dX12_hears_32 lk_RX12_m270 (by decide) (fun _ => rfl) h (fun r11 σ12 h => ?_)
      refine V_rng (fun hR13 => ?_)
      have h := h hR13
      refine V_aload_n 0 rfl rfl dX12_hears_35 ?_
      refine V_getR (f := 34) ci_X12 sh_69 rfl (by decide) (c1 := 94) rfl dX12_hears_36 lk_RX12_f83 ?_
      refine V_iload_n 1 rfl rfl dX12_hears_39 ?_
      obtain ⟨g14, h⟩ := h
      refine V_iald sh_94 (by decide) g14 dX12_hears_40 ?_
      exact V_iret rfl (fun _ q => by cases q) (vp_nar_int _) dX12_hears_41 h
    · have h := h.2 q10
      refine V_bipush (v := -3) (by decide) dX12_hears_27 ?_
      exact V_iret rfl (fun _ q => by cases q) (vp_nar_int _) dX12_hears_29 h
  · have h := h.2 q5
    refine V_bipush (v := -2) (by decide) dX12_hears_14 ?_
    exact V_iret rfl (fun _ q => by cases q) (vp_nar_int _) dX12_hears_16 h
theorem eX12_hears {X : Cx} {v1 : Int} {v2 : Int} {σ : Sg} {Q : Int → Sg → Prop} (h : GX12_hears_0 X v1 v2 σ Q) : KX12_hears X v1 v2 σ Q := V_enter (by decide) (Nat.le_of_ble_eq_true rfl) rfl h
def GX12_tells_0 (X : Cx) (v1 : Int) (v2 : Int) (σ : Sg) (Q : Int → Sg → Prop) : Prop := VV X mX12_tells 0 [(0, .ref (cxA X 69)), (1, .int (gI v1)), (2, .int (gI v2))] [] σ Q
set_option maxHeartbeats 2000000 in
set_option maxRecDepth 20000 in
theorem rX12_tells_0 {X : Cx} {v1 : Int} {v2 : Int} {σ : Sg} {Q : Int → Sg → Prop} (h : Rng σ → KX12_isThing X v1 σ (fun r1 σ2 => Rng σ2 → (inI r1) ∧ ((¬ r1 = 0 → KX12_in X v2 0 20 σ2 (fun r6 σ7 => Rng σ7 → (inI r6) ∧ ((¬ r6 = 0 → KX12_think X v2 σ7 (fun r11 σ12 => Rng σ12 → KX12_findSaid X σ12 (fun r14 σ15 => Rng σ15 → (0 ≤ v1 ∧ v1 < 8) ∧ Q (σ15 96 v1.toNat) σ15))) ∧ (r6 = 0 → Q ((-3)) σ7)))) ∧ (r1 = 0 → Q ((-2)) σ2)))) : GX12_tells_0 X v1 v2 σ Q := by
  unfold GX12_tells_0
  refine V_rng (fun hR0 => ?_)
  have h := h hR0
  refine V_aload_n 0 rfl rfl dX12_tells_0 ?_
  refine V_iload_n 1 rfl rfl dX12_tells_1 ?_
  refine V_cV (M' := mX12_isThing) (As := [.int (gI v1)]) (fun r => [.int (gI r)]) ok_X12_isThing ok2_X12_isThing sh_69 rfl (by decide) rfl rfl (Nat.le_of_ble_eq_true rfl) dX12_tells_2 lk_RX12_m106 (by decide) (fun _ => rfl) h (fun r1 σ2 h => ?_)
  refine V_rng (fun hR3 => ?_)
  have h := h hR3
  obtain ⟨g4, h⟩ := h
  refine V_if_ne (tgt := 11) dX12_tells_5 (by decide) g4 (fun q5 => ?_) (fun q5 => ?_)
  · have h := h.1 q5
    refine V_iload_n 2 rfl rfl dX12_tells_11 ?_
    refine V_iconst dX12_tells_12 ?_
    refine V_bipush (v := 20) (by decide) dX12_tells_13 ?_
    refine V_cS (M' := mX12_in) (As := [.int (gI v2), .int (gI 0), .int (gI 20)]) (fun r => [.int (gI r)]) ok_X12_in ok2_X12_in rfl rfl (Nat.le_of_ble_eq_true rfl) dX12_tells_15 lk_RX12_m102 (by decide) (fun _ => rfl) h (fun r6 σ7 h => ?_)
    refine V_rng (fun hR8 => ?_)
    have h := h hR8
    obtain ⟨g9, h⟩ := h
    refine V_if_ne (tgt := 24) dX12_tells_18 (by decide) g9 (fun q10 => ?_) (fun q10 => ?_)
    · have h := h.1 q10
      refine V_aload_n 0 rfl rfl dX12_tells_24 ?_
      refine V_iload_n 2 rfl rfl dX12_tells_25 ?_
      refine V_cV (M' := mX12_think) (As := [.int (gI v2)]) (fun _ => []) ok_X12_think ok2_X12_think sh_69 rfl (by decide) rfl rfl (Nat.le_of_ble_eq_true rfl) dX12_tells_26 lk_RX12_m270 (by decide) (fun _ => rfl) h (fun r11 σ12 h => ?_)
      refine V_rng (fun hR13 => ?_)
      have h := h hR13
      refine V_aload_n 0 rfl rfl dX12_tells_29 ?_
      refine V_cV (M' := mX12_findSaid) (As := []) (fun _ => []) ok_X12_findSaid ok2_X12_findSaid sh_69 rfl (by decide) rfl rfl (Nat.le_of_ble_eq_true rfl) dX12_tells_30 lk_RX12_m267 (by decide) (fun _ => rfl) h (fun r14 σ15 h => ?_)
      refine V_rng (fun hR16 => ?_)
      have h := h hR16
      refine V_aload_n 0 rfl rfl dX12_tells_33 ?_
      refine V_getR (f := 36) ci_X12 sh_69 rfl (by decide) (c1 := 96) rfl dX12_tells_34 lk_RX12_f89 ?_
      refine V_iload_n 1 rfl rfl dX12_tells_37 ?_
      obtain ⟨g17, h⟩ := h
      refine V_iald sh_96 (by decide) g17 dX12_tells_38 ?_
      exact V_iret rfl (fun _ q => by cases q) (vp_nar_int _) dX12_tells_39 h
    · have h := h.2 q10
      refine V_bipush (v := -3) (by decide) dX12_tells_21 ?_
      exact V_iret rfl (fun _ q => by cases q) (vp_nar_int _) dX12_tells_23 h
  · have h := h.2 q5
    refine V_bipush (v := -2) (by decide) dX12_tells_8 ?_
    exact V_iret rfl (fun _ q => by cases q) (vp_nar_int _) dX12_tells_10 h
theorem eX12_tells {X : Cx} {v1 : Int} {v2 : Int} {σ : Sg} {Q : Int → Sg → Prop} (h : GX12_tells_0 X v1 v2 σ Q) : KX12_tells X v1 v2 σ Q := V_enter (by decide) (Nat.le_of_ble_eq_true rfl) rfl h
def GX12_ends_0 (X : Cx) (σ : Sg) (Q : Int → Sg → Prop) : Prop := VV X mX12_ends 0 [(0, .ref (cxA X 69))] [] σ Q
def GX12_ends_2 (X : Cx) (v1 : Int) (σ : Sg) (Q : Int → Sg → Prop) : Prop := VV X mX12_ends 2 [(0, .ref (cxA X 69)), (1, .int (gI v1))] [] σ Q
def GX12_ends_15 (X : Cx) (v1 : Int) (v2 : Int) (σ : Sg) (Q : Int → Sg → Prop) : Prop := VV X mX12_ends 15 [(0, .ref (cxA X 69)), (1, .int (gI v1)), (2, .int (gI v2))] [] σ Q
def GX12_ends_52 (X : Cx) (v1 : Int) (v2 : Int) (v3 : Int) (σ : Sg) (Q : Int → Sg → Prop) : Prop := VV X mX12_ends 52 [(0, .ref (cxA X 69)), (1, .int (gI v1)), (2, .int (gI v2)), (3, .int (gI v3))] [] σ Q
def GX12_ends_83 (X : Cx) (v1 : Int) (v2 : Int) (v3 : Int) (σ : Sg) (Q : Int → Sg → Prop) : Prop := VV X mX12_ends 83 [(0, .ref (cxA X 69)), (1, .int (gI v1)), (2, .int (gI v2)), (3, .int (gI v3))] [] σ Q
def GX12_ends_84 (X : Cx) (v1 : Int) (v2 : Int) (v3 : Int) (s0 : Int) (σ : Sg) (Q : Int → Sg → Prop) : Prop := VV X mX12_ends 84 [(0, .ref (cxA X 69)), (1, .int (gI v1)), (2, .int (gI v2)), (3, .int (gI v3))] [.int (gI s0)] σ Q
set_option maxHeartbeats 2000000 in
set_option maxRecDepth 20000 in
theorem rX12_ends_0 {X : Cx} {σ : Sg} {Q : Int → Sg → Prop} (h : Rng σ → GX12_ends_2 X 0 σ Q) : GX12_ends_0 X σ Q := by
  unfold GX12_ends_0
  refine V_rng (fun hR0 => ?_)
  have h := h hR0
  refine V_iconst dX12_ends_0 ?_
  refine V_istore_n (L' := [(1, .int (gI 0)), (0, .ref (cxA X 69))]) rfl (by decide) rfl dX12_ends_1 ?_
  exact V_sub [1, 0] rfl h
set_option maxHeartbeats 2000000 in
set_option maxRecDepth 20000 in
theorem rX12_ends_2 {X : Cx} {v1 : Int} {σ : Sg} {Q : Int → Sg → Prop} (h : Rng σ → (inI v1) ∧ ((21 ≤ v1 → Q ((-1)) σ) ∧ (v1 < 21 → KX12_think X v1 σ (fun r3 σ4 => Rng σ4 → GX12_ends_15 X v1 0 σ4 Q)))) : GX12_ends_2 X v1 σ Q := by
  unfold GX12_ends_2
  refine V_rng (fun hR0 => ?_)
  have h := h hR0
  refine V_iload_n 1 rfl rfl dX12_ends_2 ?_
  refine V_bipush (v := 21) (by decide) dX12_ends_3 ?_
  obtain ⟨g1, h⟩ := h
  refine V_icmp_ge (tgt := 103) dX12_ends_5 (by decide) g1 (by decide) (fun q2 => ?_) (fun q2 => ?_)
  · have h := h.1 q2
    refine V_iconst dX12_ends_103 ?_
    exact V_iret rfl (fun _ q => by cases q) (vp_nar_int _) dX12_ends_104 h
  · have h := h.2 q2
    refine V_aload_n 0 rfl rfl dX12_ends_8 ?_
    refine V_iload_n 1 rfl rfl dX12_ends_9 ?_
    refine V_cV (M' := mX12_think) (As := [.int (gI v1)]) (fun _ => []) ok_X12_think ok2_X12_think sh_69 rfl (by decide) rfl rfl (Nat.le_of_ble_eq_true rfl) dX12_ends_10 lk_RX12_m270 (by decide) (fun _ => rfl) h (fun r3 σ4 h => ?_)
    refine V_rng (fun hR5 => ?_)
    have h := h hR5
    refine V_iconst dX12_ends_13 ?_
    refine V_istore_n (L' := [(2, .int (gI 0)), (0, .ref (cxA X 69)), (1, .int (gI v1))]) rfl (by decide) rfl dX12_ends_14 ?_
    exact V_sub [1, 2, 0] rfl h
set_option maxHeartbeats 2000000 in
set_option maxRecDepth 20000 in
theorem rX12_ends_15 {X : Cx} {v1 : Int} {v2 : Int} {σ : Sg} {Q : Int → Sg → Prop} (h : Rng σ → (inI v2) ∧ (((σ 69 20) ≤ v2 → KX12_think X (v1 + 1) σ (fun r3 σ4 => Rng σ4 → GX12_ends_52 X v1 1 0 σ4 Q)) ∧ (v2 < (σ 69 20) → (0 ≤ v2 ∧ v2 < 8) ∧ (0 ≤ v2 ∧ v2 < 8) ∧ GX12_ends_15 X v1 (v2 + 1) (up2 σ 92 v2.toNat (σ 94 v2.toNat)) Q))) : GX12_ends_15 X v1 v2 σ Q := by
  unfold GX12_ends_15
  refine V_rng (fun hR0 => ?_)
  have h := h hR0
  refine V_iload_n 2 rfl rfl dX12_ends_15 ?_
  refine V_aload_n 0 rfl rfl dX12_ends_16 ?_
  refine V_getI (f := 20) ci_X12 sh_69 rfl (by decide) dX12_ends_17 lk_RX12_f228 ?_
  obtain ⟨g1, h⟩ := h
  refine V_icmp_ge (tgt := 41) dX12_ends_20 (by decide) g1 (show inI (σ 69 20) from (hR0.1 69 20 (by decide))) (fun q2 => ?_) (fun q2 => ?_)
  · have h := h.1 q2
    refine V_aload_n 0 rfl rfl dX12_ends_41 ?_
    refine V_iload_n 1 rfl rfl dX12_ends_42 ?_
    refine V_iconst dX12_ends_43 ?_
    refine V_iadd dX12_ends_44 ?_
    refine V_cV (M' := mX12_think) (As := [.int (gI (v1 + 1))]) (fun _ => []) ok_X12_think ok2_X12_think sh_69 rfl (by decide) rfl rfl (Nat.le_of_ble_eq_true rfl) dX12_ends_45 lk_RX12_m270 (by decide) (fun _ => rfl) h (fun r3 σ4 h => ?_)
    refine V_rng (fun hR5 => ?_)
    have h := h hR5
    refine V_iconst dX12_ends_48 ?_
    refine V_istore_n (L' := [(2, .int (gI 1)), (0, .ref (cxA X 69)), (1, .int (gI v1))]) rfl (by decide) rfl dX12_ends_49 ?_
    refine V_iconst dX12_ends_50 ?_
    refine V_istore_n (L' := [(3, .int (gI 0)), (2, .int (gI 1)), (0, .ref (cxA X 69)), (1, .int (gI v1))]) rfl (by decide) rfl dX12_ends_51 ?_
    exact V_sub [2, 3, 1, 0] rfl h
  · have h := h.2 q2
    refine V_aload_n 0 rfl rfl dX12_ends_23 ?_
    refine V_getR (f := 32) ci_X12 sh_69 rfl (by decide) (c1 := 92) rfl dX12_ends_24 lk_RX12_f77 ?_
    refine V_iload_n 2 rfl rfl dX12_ends_27 ?_
    refine V_aload_n 0 rfl rfl dX12_ends_28 ?_
    refine V_getR (f := 34) ci_X12 sh_69 rfl (by decide) (c1 := 94) rfl dX12_ends_29 lk_RX12_f83 ?_
    refine V_iload_n 2 rfl rfl dX12_ends_32 ?_
    obtain ⟨g6, h⟩ := h
    refine V_iald sh_94 (by decide) g6 dX12_ends_33 ?_
    obtain ⟨g7, h⟩ := h
    refine V_iast sh_92 (by decide) g7 (show inI (σ 94 v2.toNat) from (inI_sh hR0 sh_94 (by decide))) dX12_ends_34 ?_
    refine V_iinc (L' := [(2, .int (gI (v2 + 1))), (0, .ref (cxA X 69)), (1, .int (gI v1))]) 2 rfl (by decide) rfl dX12_ends_35 ?_
    refine V_goto (tgt := 15) dX12_ends_38 (by decide) ?_
    exact V_sub [1, 2, 0] rfl h
set_option maxHeartbeats 2000000 in
set_option maxRecDepth 20000 in
theorem rX12_ends_52 {X : Cx} {v1 : Int} {v2 : Int} {v3 : Int} {σ : Sg} {Q : Int → Sg → Prop} (h : Rng σ → (inI v3) ∧ (((σ 69 20) ≤ v3 → (inI v2) ∧ ((v2 = 0 → GX12_ends_2 X (v1 + 1) σ Q) ∧ (¬ v2 = 0 → Q v1 σ))) ∧ (v3 < (σ 69 20) → (inI v2) ∧ ((v2 = 0 → GX12_ends_83 X v1 v2 v3 σ Q) ∧ (¬ v2 = 0 → (0 ≤ v3 ∧ v3 < 8) ∧ (0 ≤ v3 ∧ v3 < 8) ∧ ((¬ (σ 92 v3.toNat) = (σ 94 v3.toNat) → GX12_ends_83 X v1 v2 v3 σ Q) ∧ ((σ 92 v3.toNat) = (σ 94 v3.toNat) → GX12_ends_84 X v1 v2 v3 1 σ Q))))))) : GX12_ends_52 X v1 v2 v3 σ Q := by
  unfold GX12_ends_52
  refine V_rng (fun hR0 => ?_)
  have h := h hR0
  refine V_iload_n 3 rfl rfl dX12_ends_52 ?_
  refine V_aload_n 0 rfl rfl dX12_ends_53 ?_
  refine V_getI (f := 20) ci_X12 sh_69 rfl (by decide) dX12_ends_54 lk_RX12_f228 ?_
  obtain ⟨g1, h⟩ := h
  refine V_icmp_ge (tgt := 91) dX12_ends_57 (by decide) g1 (show inI (σ 69 20) from (hR0.1 69 20 (by decide))) (fun q2 => ?_) (fun q2 => ?_)
  · have h := h.1 q2
    refine V_iload_n 2 rfl rfl dX12_ends_91 ?_
    obtain ⟨g3, h⟩ := h
    refine V_if_eq (tgt := 97) dX12_ends_92 (by decide) g3 (fun q4 => ?_) (fun q4 => ?_)
    · have h := h.1 q4
      refine V_iinc (L' := [(1, .int (gI (v1 + 1))), (0, .ref (cxA X 69)), (2, .int (gI v2)), (3, .int (gI v3))]) 1 rfl (by decide) rfl dX12_ends_97 ?_
      refine V_goto (tgt := 2) dX12_ends_100 (by decide) ?_
      exact V_sub [1, 0] rfl h
    · have h := h.2 q4
      refine V_iload_n 1 rfl rfl dX12_ends_95 ?_
      exact V_iret rfl (fun _ q => by cases q) (vp_nar_int _) dX12_ends_96 h
  · have h := h.2 q2
    refine V_iload_n 2 rfl rfl dX12_ends_60 ?_
    obtain ⟨g5, h⟩ := h
    refine V_if_eq (tgt := 83) dX12_ends_61 (by decide) g5 (fun q6 => ?_) (fun q6 => ?_)
    · have h := h.1 q6
      exact h
    · have h := h.2 q6
      refine V_aload_n 0 rfl rfl dX12_ends_64 ?_
      refine V_getR (f := 32) ci_X12 sh_69 rfl (by decide) (c1 := 92) rfl dX12_ends_65 lk_RX12_f77 ?_
      refine V_iload_n 3 rfl rfl dX12_ends_68 ?_
      obtain ⟨g7, h⟩ := h
      refine V_iald sh_92 (by decide) g7 dX12_ends_69 ?_
      refine V_aload_n 0 rfl rfl dX12_ends_70 ?_
      refine V_getR (f := 34) ci_X12 sh_69 rfl (by decide) (c1 := 94) rfl dX12_ends_71 lk_RX12_f83 ?_
      refine V_iload_n 3 rfl rfl dX12_ends_74 ?_
      obtain ⟨g8, h⟩ := h
      refine V_iald sh_94 (by decide) g8 dX12_ends_75 ?_
      refine V_icmp_ne (tgt := 83) dX12_ends_76 (by decide) (show inI (σ 92 v3.toNat) from (inI_sh hR0 sh_92 (by decide))) (show inI (σ 94 v3.toNat) from (inI_sh hR0 sh_94 (by decide))) (fun q9 => ?_) (fun q9 => ?_)
      · have h := h.1 q9
        exact h
      · have h := h.2 q9
        refine V_iconst dX12_ends_79 ?_
        refine V_goto (tgt := 84) dX12_ends_80 (by decide) ?_
        exact h
set_option maxHeartbeats 2000000 in
set_option maxRecDepth 20000 in
theorem rX12_ends_83 {X : Cx} {v1 : Int} {v2 : Int} {v3 : Int} {σ : Sg} {Q : Int → Sg → Prop} (h : Rng σ → GX12_ends_84 X v1 v2 v3 0 σ Q) : GX12_ends_83 X v1 v2 v3 σ Q := by
  unfold GX12_ends_83
  refine V_rng (fun hR0 => ?_)
  have h := h hR0
  refine V_iconst dX12_ends_83 ?_
  exact h
set_option maxHeartbeats 2000000 in
set_option maxRecDepth 20000 in
theorem rX12_ends_84 {X : Cx} {v1 : Int} {v2 : Int} {v3 : Int} {s0 : Int} {σ : Sg} {Q : Int → Sg → Prop} (h : Rng σ → GX12_ends_52 X v1 s0 (v3 + 1) σ Q) : GX12_ends_84 X v1 v2 v3 s0 σ Q := by
  unfold GX12_ends_84
  refine V_rng (fun hR0 => ?_)
  have h := h hR0
  refine V_istore_n (L' := [(2, .int (gI s0)), (0, .ref (cxA X 69)), (1, .int (gI v1)), (3, .int (gI v3))]) rfl (by decide) rfl dX12_ends_84 ?_
  refine V_iinc (L' := [(3, .int (gI (v3 + 1))), (2, .int (gI s0)), (0, .ref (cxA X 69)), (1, .int (gI v1))]) 3 rfl (by decide) rfl dX12_ends_85 ?_
  refine V_goto (tgt := 52) dX12_ends_88 (by decide) ?_
  exact V_sub [2, 3, 1, 0] rfl h
theorem eX12_ends {X : Cx} {σ : Sg} {Q : Int → Sg → Prop} (h : GX12_ends_0 X σ Q) : KX12_ends X σ Q := V_enter (by decide) (Nat.le_of_ble_eq_true rfl) rfl h
def GX12_tryWord_0 (X : Cx) (v1 : Int) (v2 : Int) (v3 : Int) (σ : Sg) (Q : Int → Sg → Prop) : Prop := VV X mX12_tryWord 0 [(0, .ref (cxA X 69)), (1, .int (gI v1)), (2, .int (gI v2)), (3, .int (gI v3))] [] σ Q
def GX12_tryWord_28 (X : Cx) (v1 : Int) (v2 : Int) (v3 : Int) (v4 : Int) (v5 : Int) (σ : Sg) (Q : Int → Sg → Prop) : Prop := VV X mX12_tryWord 28 [(0, .ref (cxA X 69)), (1, .int (gI v1)), (2, .int (gI v2)), (3, .int (gI v3)), (4, .int (gI v4)), (5, .int (gI v5))] [] σ Q
set_option maxHeartbeats 2000000 in
set_option maxRecDepth 20000 in
theorem rX12_tryWord_0 {X : Cx} {v1 : Int} {v2 : Int} {v3 : Int} {σ : Sg} {Q : Int → Sg → Prop} (h : Rng σ → (0 ≤ v1 ∧ v1 < 24) ∧ (0 ≤ v1 ∧ v1 < 24) ∧ (inI v2) ∧ ((¬ v2 = (σ 78 v1.toNat) → GX12_tryWord_28 X v1 v2 v3 (σ 78 v1.toNat) (σ 79 v1.toNat) σ Q) ∧ (v2 = (σ 78 v1.toNat) → (inI v3) ∧ ((v3 = (σ 79 v1.toNat) → Q 0 σ) ∧ (¬ v3 = (σ 79 v1.toNat) → GX12_tryWord_28 X v1 v2 v3 (σ 78 v1.toNat) (σ 79 v1.toNat) σ Q))))) : GX12_tryWord_0 X v1 v2 v3 σ Q := by
  unfold GX12_tryWord_0
  refine V_rng (fun hR0 => ?_)
  have h := h hR0
  refine V_aload_n 0 rfl rfl dX12_tryWord_0 ?_
  refine V_getR (f := 17) ci_X12 sh_69 rfl (by decide) (c1 := 78) rfl dX12_tryWord_1 lk_RX12_f34 ?_
  refine V_iload_n 1 rfl rfl dX12_tryWord_4 ?_
  obtain ⟨g1, h⟩ := h
  refine V_iald sh_78 (by decide) g1 dX12_tryWord_5 ?_
  refine V_istore (L' := [(4, .int (gI (σ 78 v1.toNat))), (0, .ref (cxA X 69)), (1, .int (gI v1)), (2, .int (gI v2)), (3, .int (gI v3))]) (by decide) rfl dX12_tryWord_6 ?_
  refine V_aload_n 1 rfl rfl dX12_tryWord_8 ?_
  refine V_getR (f := 18) ci_X12 sh_69 rfl (by decide) (c1 := 79) rfl dX12_tryWord_9 lk_RX12_f37 ?_
  refine V_iload_n 2 rfl rfl dX12_tryWord_12 ?_
  obtain ⟨g2, h⟩ := h
  refine V_iald sh_79 (by decide) g2 dX12_tryWord_13 ?_
  refine V_istore (L' := [(5, .int (gI (σ 79 v1.toNat))), (4, .int (gI (σ 78 v1.toNat))), (0, .ref (cxA X 69)), (1, .int (gI v1)), (2, .int (gI v2)), (3, .int (gI v3))]) (by decide) rfl dX12_tryWord_14 ?_
  refine V_iload_n 4 rfl rfl dX12_tryWord_16 ?_
  refine V_iload 1 rfl dX12_tryWord_17 ?_
  obtain ⟨g3, h⟩ := h
  refine V_icmp_ne (tgt := 28) dX12_tryWord_19 (by decide) g3 (show inI (σ 78 v1.toNat) from (inI_sh hR0 sh_78 (by decide))) (fun q4 => ?_) (fun q4 => ?_)
  · have h := h.1 q4
    exact V_sub [2, 3, 4, 5, 1, 0] rfl h
  · have h := h.2 q4
    refine V_iload_n 5 rfl rfl dX12_tryWord_22 ?_
    refine V_iload 0 rfl dX12_tryWord_23 ?_
    obtain ⟨g5, h⟩ := h
    refine V_icmp_eq (tgt := 81) dX12_tryWord_25 (by decide) g5 (show inI (σ 79 v1.toNat) from (inI_sh hR0 sh_79 (by decide))) (fun q6 => ?_) (fun q6 => ?_)
    · have h := h.1 q6
      exact V_vret rfl dX12_tryWord_81 h
    · have h := h.2 q6
      exact V_sub [2, 3, 4, 5, 1, 0] rfl h
set_option maxHeartbeats 2000000 in
set_option maxRecDepth 20000 in
theorem rX12_tryWord_28 {X : Cx} {v1 : Int} {v2 : Int} {v3 : Int} {v4 : Int} {v5 : Int} {σ : Sg} {Q : Int → Sg → Prop} (h : Rng σ → (0 ≤ v1 ∧ v1 < 24) ∧ (inI v2) ∧ (0 ≤ v1 ∧ v1 < 24) ∧ (inI v3) ∧ KX12_meaning X (up2 (up2 σ 78 v1.toNat v2) 79 v1.toNat v3) (fun r5 σ6 => Rng σ6 → (0 ≤ r5 ∧ r5 < 256) ∧ (0 ≤ r5 ∧ r5 < 256) ∧ (inI ((σ6 97 r5.toNat) + 1)) ∧ (inI ((σ6 69 38) + 1)) ∧ (0 ≤ v1 ∧ v1 < 24) ∧ (inI v4) ∧ (0 ≤ v1 ∧ v1 < 24) ∧ (inI v5) ∧ Q 0 (up2 (up2 (up2 (up2 σ6 97 r5.toNat ((σ6 97 r5.toNat) + 1)) 69 38 ((σ6 69 38) + 1)) 78 v1.toNat v4) 79 v1.toNat v5))) : GX12_tryWord_28 X v1 v2 v3 v4 v5 σ Q := by
  unfold GX12_tryWord_28
  refine V_rng (fun hR0 => ?_)
  have h := h hR0
  refine V_aload_n 0 rfl rfl dX12_tryWord_28 ?_
  refine V_getR (f := 17) ci_X12 sh_69 rfl (by decide) (c1 := 78) rfl dX12_tryWord_29 lk_RX12_f34 ?_
  refine V_iload_n 1 rfl rfl dX12_tryWord_32 ?_
  refine V_iload_n 2 rfl rfl dX12_tryWord_33 ?_
  obtain ⟨g1, h⟩ := h
  obtain ⟨g2, h⟩ := h
  refine V_iast sh_78 (by decide) g1 g2 dX12_tryWord_34 ?_
  refine V_aload_n 0 rfl rfl dX12_tryWord_35 ?_
  refine V_getR (f := 18) ci_X12 sh_69 rfl (by decide) (c1 := 79) rfl dX12_tryWord_36 lk_RX12_f37 ?_
  refine V_iload_n 1 rfl rfl dX12_tryWord_39 ?_
  refine V_iload_n 3 rfl rfl dX12_tryWord_40 ?_
  obtain ⟨g3, h⟩ := h
  obtain ⟨g4, h⟩ := h
  refine V_iast sh_79 (by decide) g3 g4 dX12_tryWord_41 ?_
  refine V_aload_n 0 rfl rfl dX12_tryWord_42 ?_
  refine V_getR (f := 37) ci_X12 sh_69 rfl (by decide) (c1 := 97) rfl dX12_tryWord_43 lk_RX12_f92 ?_
  refine V_aload_n 0 rfl rfl dX12_tryWord_46 ?_
  refine V_cV (M' := mX12_meaning) (As := []) (fun r => [.int (gI r), .ref (cxA X 97)]) ok_X12_meaning ok2_X12_meaning sh_69 rfl (by decide) rfl rfl (Nat.le_of_ble_eq_true rfl) dX12_tryWord_47 lk_RX12_m222 (by decide) (fun _ => rfl) h (fun r5 σ6 h => ?_)
  refine V_rng (fun hR7 => ?_)
  have h := h hR7
  refine V_dup2 rfl rfl dX12_tryWord_50 ?_
  obtain ⟨g8, h⟩ := h
  refine V_iald sh_97 (by decide) g8 dX12_tryWord_51 ?_
  refine V_iconst dX12_tryWord_52 ?_
  refine V_iadd dX12_tryWord_53 ?_
  obtain ⟨g9, h⟩ := h
  obtain ⟨g10, h⟩ := h
  refine V_iast sh_97 (by decide) g9 g10 dX12_tryWord_54 ?_
  refine V_aload_n 0 rfl rfl dX12_tryWord_55 ?_
  refine V_dup rfl dX12_tryWord_56 ?_
  refine V_getI (f := 38) ci_X12 sh_69 rfl (by decide) dX12_tryWord_57 lk_RX12_f273 ?_
  refine V_iconst dX12_tryWord_60 ?_
  refine V_iadd dX12_tryWord_61 ?_
  obtain ⟨g11, h⟩ := h
  refine V_putI (f := 38) ci_X12 sh_69 rfl (by decide) rfl rfl g11 dX12_tryWord_62 lk_RX12_f273 ?_
  refine V_aload_n 0 rfl rfl dX12_tryWord_65 ?_
  refine V_getR (f := 17) ci_X12 sh_69 rfl (by decide) (c1 := 78) rfl dX12_tryWord_66 lk_RX12_f34 ?_
  refine V_iload_n 1 rfl rfl dX12_tryWord_69 ?_
  refine V_iload 4 rfl dX12_tryWord_70 ?_
  obtain ⟨g12, h⟩ := h
  obtain ⟨g13, h⟩ := h
  refine V_iast sh_78 (by decide) g12 g13 dX12_tryWord_72 ?_
  refine V_aload_n 0 rfl rfl dX12_tryWord_73 ?_
  refine V_getR (f := 18) ci_X12 sh_69 rfl (by decide) (c1 := 79) rfl dX12_tryWord_74 lk_RX12_f37 ?_
  refine V_iload_n 1 rfl rfl dX12_tryWord_77 ?_
  refine V_iload 5 rfl dX12_tryWord_78 ?_
  obtain ⟨g14, h⟩ := h
  obtain ⟨g15, h⟩ := h
  refine V_iast sh_79 (by decide) g14 g15 dX12_tryWord_80 ?_
  exact V_vret rfl dX12_tryWord_81 h
theorem eX12_tryWord {X : Cx} {v1 : Int} {v2 : Int} {v3 : Int} {σ : Sg} {Q : Int → Sg → Prop} (h : GX12_tryWord_0 X v1 v2 v3 σ Q) : KX12_tryWord X v1 v2 v3 σ Q := V_enter (by decide) (Nat.le_of_ble_eq_true rfl) rfl h
def GX12_wrong_0 (X : Cx) (v1 : Int) (σ : Sg) (Q : Int → Sg → Prop) : Prop := VV X mX12_wrong 0 [(0, .ref (cxA X 69)), (1, .int (gI v1))] [] σ Q
def GX12_wrong_24 (X : Cx) (v1 : Int) (v2 : Int) (σ : Sg) (Q : Int → Sg → Prop) : Prop := VV X mX12_wrong 24 [(0, .ref (cxA X 69)), (1, .int (gI v1)), (2, .int (gI v2))] [] σ Q
def GX12_wrong_51 (X : Cx) (v1 : Int) (v2 : Int) (σ : Sg) (Q : Int → Sg → Prop) : Prop := VV X mX12_wrong 51 [(0, .ref (cxA X 69)), (1, .int (gI v1)), (2, .int (gI v2))] [] σ Q
def GX12_wrong_69 (X : Cx) (v1 : Int) (v2 : Int) (v3 : Int) (v4 : Int) (σ : Sg) (Q : Int → Sg → Prop) : Prop := VV X mX12_wrong 69 [(0, .ref (cxA X 69)), (1, .int (gI v1)), (2, .int (gI v2)), (3, .int (gI v3)), (4, .int (gI v4))] [] σ Q
def GX12_wrong_81 (X : Cx) (v1 : Int) (v2 : Int) (v3 : Int) (v4 : Int) (s0 : Int) (s1 : Int) (σ : Sg) (Q : Int → Sg → Prop) : Prop := VV X mX12_wrong 81 [(0, .ref (cxA X 69)), (1, .int (gI v1)), (2, .int (gI v2)), (3, .int (gI v3)), (4, .int (gI v4))] [.int (gI s0), .int (gI s1)] σ Q
def GX12_wrong_107 (X : Cx) (v1 : Int) (v2 : Int) (v3 : Int) (v4 : Int) (σ : Sg) (Q : Int → Sg → Prop) : Prop := VV X mX12_wrong 107 [(0, .ref (cxA X 69)), (1, .int (gI v1)), (2, .int (gI v2)), (3, .int (gI v3)), (4, .int (gI v4))] [] σ Q
def GX12_wrong_110 (X : Cx) (v1 : Int) (v2 : Int) (v3 : Int) (v4 : Int) (σ : Sg) (Q : Int → Sg → Prop) : Prop := VV X mX12_wrong 110 [(0, .ref (cxA X 69)), (1, .int (gI v1)), (2, .int (gI v2)), (3, .int (gI v3)), (4, .int (gI v4))] [] σ Q
def GX12_wrong_141 (X : Cx) (v1 : Int) (v2 : Int) (v3 : Int) (v4 : Int) (σ : Sg) (Q : Int → Sg → Prop) : Prop := VV X mX12_wrong 141 [(0, .ref (cxA X 69)), (1, .int (gI v1)), (2, .int (gI v2)), (3, .int (gI v3)), (4, .int (gI v4))] [] σ Q
def GX12_wrong_169 (X : Cx) (v1 : Int) (v2 : Int) (v3 : Int) (v4 : Int) (s0 : Int) (s1 : Int) (σ : Sg) (Q : Int → Sg → Prop) : Prop := VV X mX12_wrong 169 [(0, .ref (cxA X 69)), (1, .int (gI v1)), (2, .int (gI v2)), (3, .int (gI v3)), (4, .int (gI v4))] [.int (gI s0), .int (gI s1), .ref (cxA X 69)] σ Q
def GX12_wrong_173 (X : Cx) (v1 : Int) (v2 : Int) (v3 : Int) (v4 : Int) (σ : Sg) (Q : Int → Sg → Prop) : Prop := VV X mX12_wrong 173 [(0, .ref (cxA X 69)), (1, .int (gI v1)), (2, .int (gI v2)), (3, .int (gI v3)), (4, .int (gI v4))] [] σ Q
def GX12_wrong_183 (X : Cx) (v1 : Int) (v2 : Int) (v3 : Int) (σ : Sg) (Q : Int → Sg → Prop) : Prop := VV X mX12_wrong 183 [(0, .ref (cxA X 69)), (1, .int (gI v1)), (2, .int (gI v2)), (3, .int (gI v3))] [] σ Q
def GX12_wrong_210 (X : Cx) (v1 : Int) (v2 : Int) (v3 : Int) (s0 : Int) (σ : Sg) (Q : Int → Sg → Prop) : Prop := VV X mX12_wrong 210 [(0, .ref (cxA X 69)), (1, .int (gI v1)), (2, .int (gI v2)), (3, .int (gI v3))] [.int (gI s0)] σ Q
set_option maxHeartbeats 2000000 in
set_option maxRecDepth 20000 in
theorem rX12_wrong_0 {X : Cx} {v1 : Int} {σ : Sg} {Q : Int → Sg → Prop} (h : Rng σ → KX12_in X v1 0 2 σ (fun r1 σ2 => Rng σ2 → (inI r1) ∧ ((¬ r1 = 0 → KX12_isRead X σ2 (fun r6 σ7 => Rng σ7 → (inI r6) ∧ ((¬ r6 = 0 → GX12_wrong_24 X v1 0 σ7 Q) ∧ (r6 = 0 → Q ((-4)) σ7)))) ∧ (r1 = 0 → Q ((-3)) σ2)))) : GX12_wrong_0 X v1 σ Q := by
  unfold GX12_wrong_0
  refine V_rng (fun hR0 => ?_)
  have h := h hR0
  refine V_iload_n 1 rfl rfl dX12_wrong_0 ?_
  refine V_iconst dX12_wrong_1 ?_
  refine V_iconst dX12_wrong_2 ?_
  refine V_cS (M' := mX12_in) (As := [.int (gI v1), .int (gI 0), .int (gI 2)]) (fun r => [.int (gI r)]) ok_X12_in ok2_X12_in rfl rfl (Nat.le_of_ble_eq_true rfl) dX12_wrong_3 lk_RX12_m102 (by decide) (fun _ => rfl) h (fun r1 σ2 h => ?_)
  refine V_rng (fun hR3 => ?_)
  have h := h hR3
  obtain ⟨g4, h⟩ := h
  refine V_if_ne (tgt := 12) dX12_wrong_6 (by decide) g4 (fun q5 => ?_) (fun q5 => ?_)
  · have h := h.1 q5
    refine V_aload_n 0 rfl rfl dX12_wrong_12 ?_
    refine V_cV (M' := mX12_isRead) (As := []) (fun r => [.int (gI r)]) ok_X12_isRead ok2_X12_isRead sh_69 rfl (by decide) rfl rfl (Nat.le_of_ble_eq_true rfl) dX12_wrong_13 lk_RX12_m201 (by decide) (fun _ => rfl) h (fun r6 σ7 h => ?_)
    refine V_rng (fun hR8 => ?_)
    have h := h hR8
    obtain ⟨g9, h⟩ := h
    refine V_if_ne (tgt := 22) dX12_wrong_16 (by decide) g9 (fun q10 => ?_) (fun q10 => ?_)
    · have h := h.1 q10
      refine V_iconst dX12_wrong_22 ?_
      refine V_istore_n (L' := [(2, .int (gI 0)), (0, .ref (cxA X 69)), (1, .int (gI v1))]) rfl (by decide) rfl dX12_wrong_23 ?_
      exact V_sub [1, 2, 0] rfl h
    · have h := h.2 q10
      refine V_bipush (v := -4) (by decide) dX12_wrong_19 ?_
      exact V_iret rfl (fun _ q => by cases q) (vp_nar_int _) dX12_wrong_21 h
  · have h := h.2 q5
    refine V_bipush (v := -3) (by decide) dX12_wrong_9 ?_
    exact V_iret rfl (fun _ q => by cases q) (vp_nar_int _) dX12_wrong_11 h
set_option maxHeartbeats 2000000 in
set_option maxRecDepth 20000 in
theorem rX12_wrong_24 {X : Cx} {v1 : Int} {v2 : Int} {σ : Sg} {Q : Int → Sg → Prop} (h : Rng σ → (inI v2) ∧ ((256 ≤ v2 → GX12_wrong_51 X v1 0 (up2 σ 69 38 0) Q) ∧ (v2 < 256 → (0 ≤ v2 ∧ v2 < 256) ∧ GX12_wrong_24 X v1 (v2 + 1) (up2 σ 97 v2.toNat 0) Q))) : GX12_wrong_24 X v1 v2 σ Q := by
  unfold GX12_wrong_24
  refine V_rng (fun hR0 => ?_)
  have h := h hR0
  refine V_iload_n 2 rfl rfl dX12_wrong_24 ?_
  refine V_sipush (v := 256) (by decide) dX12_wrong_25 ?_
  obtain ⟨g1, h⟩ := h
  refine V_icmp_ge (tgt := 44) dX12_wrong_28 (by decide) g1 (by decide) (fun q2 => ?_) (fun q2 => ?_)
  · have h := h.1 q2
    refine V_aload_n 0 rfl rfl dX12_wrong_44 ?_
    refine V_iconst dX12_wrong_45 ?_
    refine V_putI (f := 38) ci_X12 sh_69 rfl (by decide) rfl rfl (by decide) dX12_wrong_46 lk_RX12_f273 ?_
    refine V_iconst dX12_wrong_49 ?_
    refine V_istore_n (L' := [(2, .int (gI 0)), (0, .ref (cxA X 69)), (1, .int (gI v1))]) rfl (by decide) rfl dX12_wrong_50 ?_
    exact V_sub [1, 2, 0] rfl h
  · have h := h.2 q2
    refine V_aload_n 0 rfl rfl dX12_wrong_31 ?_
    refine V_getR (f := 37) ci_X12 sh_69 rfl (by decide) (c1 := 97) rfl dX12_wrong_32 lk_RX12_f92 ?_
    refine V_iload_n 2 rfl rfl dX12_wrong_35 ?_
    refine V_iconst dX12_wrong_36 ?_
    obtain ⟨g3, h⟩ := h
    refine V_iast sh_97 (by decide) g3 (by decide) dX12_wrong_37 ?_
    refine V_iinc (L' := [(2, .int (gI (v2 + 1))), (0, .ref (cxA X 69)), (1, .int (gI v1))]) 2 rfl (by decide) rfl dX12_wrong_38 ?_
    refine V_goto (tgt := 24) dX12_wrong_41 (by decide) ?_
    exact V_sub [1, 2, 0] rfl h
set_option maxHeartbeats 2000000 in
set_option maxRecDepth 20000 in
theorem rX12_wrong_51 {X : Cx} {v1 : Int} {v2 : Int} {σ : Sg} {Q : Int → Sg → Prop} (h : Rng σ → (inI v2) ∧ (((σ 69 16) ≤ v2 → GX12_wrong_183 X v1 0 0 σ Q) ∧ (v2 < (σ 69 16) → (0 ≤ v2 ∧ v2 < 24) ∧ GX12_wrong_69 X v1 v2 (σ 78 v2.toNat) 0 σ Q))) : GX12_wrong_51 X v1 v2 σ Q := by
  unfold GX12_wrong_51
  refine V_rng (fun hR0 => ?_)
  have h := h hR0
  refine V_iload_n 2 rfl rfl dX12_wrong_51 ?_
  refine V_aload_n 0 rfl rfl dX12_wrong_52 ?_
  refine V_getI (f := 16) ci_X12 sh_69 rfl (by decide) dX12_wrong_53 lk_RX12_f185 ?_
  obtain ⟨g1, h⟩ := h
  refine V_icmp_ge (tgt := 179) dX12_wrong_56 (by decide) g1 (show inI (σ 69 16) from (hR0.1 69 16 (by decide))) (fun q2 => ?_) (fun q2 => ?_)
  · have h := h.1 q2
    refine V_iconst dX12_wrong_179 ?_
    refine V_istore_n (L' := [(2, .int (gI 0)), (0, .ref (cxA X 69)), (1, .int (gI v1))]) rfl (by decide) rfl dX12_wrong_180 ?_
    refine V_iconst dX12_wrong_181 ?_
    refine V_istore_n (L' := [(3, .int (gI 0)), (2, .int (gI 0)), (0, .ref (cxA X 69)), (1, .int (gI v1))]) rfl (by decide) rfl dX12_wrong_182 ?_
    exact V_sub [2, 3, 1, 0] rfl h
  · have h := h.2 q2
    refine V_aload_n 0 rfl rfl dX12_wrong_59 ?_
    refine V_getR (f := 17) ci_X12 sh_69 rfl (by decide) (c1 := 78) rfl dX12_wrong_60 lk_RX12_f34 ?_
    refine V_iload_n 2 rfl rfl dX12_wrong_63 ?_
    obtain ⟨g3, h⟩ := h
    refine V_iald sh_78 (by decide) g3 dX12_wrong_64 ?_
    refine V_istore_n (L' := [(3, .int (gI (σ 78 v2.toNat))), (0, .ref (cxA X 69)), (1, .int (gI v1)), (2, .int (gI v2))]) rfl (by decide) rfl dX12_wrong_65 ?_
    refine V_iconst dX12_wrong_66 ?_
    refine V_istore (L' := [(4, .int (gI 0)), (3, .int (gI (σ 78 v2.toNat))), (0, .ref (cxA X 69)), (1, .int (gI v1)), (2, .int (gI v2))]) (by decide) rfl dX12_wrong_67 ?_
    exact V_sub [2, 3, 4, 1, 0] rfl h
set_option maxHeartbeats 2000000 in
set_option maxRecDepth 20000 in
theorem rX12_wrong_69 {X : Cx} {v1 : Int} {v2 : Int} {v3 : Int} {v4 : Int} {σ : Sg} {Q : Int → Sg → Prop} (h : Rng σ → (inI v3) ∧ ((¬ v3 = 3 → GX12_wrong_81 X v1 v2 v3 v4 4 v4 σ Q) ∧ (v3 = 3 → GX12_wrong_81 X v1 v2 v3 v4 3 v4 σ Q))) : GX12_wrong_69 X v1 v2 v3 v4 σ Q := by
  unfold GX12_wrong_69
  refine V_rng (fun hR0 => ?_)
  have h := h hR0
  refine V_iload 4 rfl dX12_wrong_69 ?_
  refine V_iload_n 3 rfl rfl dX12_wrong_71 ?_
  refine V_iconst dX12_wrong_72 ?_
  obtain ⟨g1, h⟩ := h
  refine V_icmp_ne (tgt := 80) dX12_wrong_73 (by decide) g1 (by decide) (fun q2 => ?_) (fun q2 => ?_)
  · have h := h.1 q2
    refine V_iconst dX12_wrong_80 ?_
    exact h
  · have h := h.2 q2
    refine V_iconst dX12_wrong_76 ?_
    refine V_goto (tgt := 81) dX12_wrong_77 (by decide) ?_
    exact h
set_option maxHeartbeats 2000000 in
set_option maxRecDepth 20000 in
theorem rX12_wrong_81 {X : Cx} {v1 : Int} {v2 : Int} {v3 : Int} {v4 : Int} {s0 : Int} {s1 : Int} {σ : Sg} {Q : Int → Sg → Prop} (h : Rng σ → (inI s1) ∧ (inI s0) ∧ ((s0 ≤ s1 → GX12_wrong_107 X v1 v2 v3 v4 σ Q) ∧ (s1 < s0 → KX12_in X v3 1 3 σ (fun r4 σ5 => Rng σ5 → (inI r4) ∧ ((r4 = 0 → GX12_wrong_107 X v1 v2 v3 v4 σ5 Q) ∧ (¬ r4 = 0 → KX12_tryWord X v2 v3 v4 σ5 (fun r9 σ10 => Rng σ10 → GX12_wrong_69 X v1 v2 v3 (v4 + 1) σ10 Q))))))) : GX12_wrong_81 X v1 v2 v3 v4 s0 s1 σ Q := by
  unfold GX12_wrong_81
  refine V_rng (fun hR0 => ?_)
  have h := h hR0
  obtain ⟨g1, h⟩ := h
  obtain ⟨g2, h⟩ := h
  refine V_icmp_ge (tgt := 107) dX12_wrong_81 (by decide) g1 g2 (fun q3 => ?_) (fun q3 => ?_)
  · have h := h.1 q3
    exact h
  · have h := h.2 q3
    refine V_iload_n 3 rfl rfl dX12_wrong_84 ?_
    refine V_iconst dX12_wrong_85 ?_
    refine V_iconst dX12_wrong_86 ?_
    refine V_cS (M' := mX12_in) (As := [.int (gI v3), .int (gI 1), .int (gI 3)]) (fun r => [.int (gI r)]) ok_X12_in ok2_X12_in rfl rfl (Nat.le_of_ble_eq_true rfl) dX12_wrong_87 lk_RX12_m102 (by decide) (fun _ => rfl) h (fun r4 σ5 h => ?_)
    refine V_rng (fun hR6 => ?_)
    have h := h hR6
    obtain ⟨g7, h⟩ := h
    refine V_if_eq (tgt := 107) dX12_wrong_90 (by decide) g7 (fun q8 => ?_) (fun q8 => ?_)
    · have h := h.1 q8
      exact h
    · have h := h.2 q8
      refine V_aload_n 0 rfl rfl dX12_wrong_93 ?_
      refine V_iload_n 2 rfl rfl dX12_wrong_94 ?_
      refine V_iload_n 3 rfl rfl dX12_wrong_95 ?_
      refine V_iload 4 rfl dX12_wrong_96 ?_
      refine V_cV (M' := mX12_tryWord) (As := [.int (gI v2), .int (gI v3), .int (gI v4)]) (fun _ => []) ok_X12_tryWord ok2_X12_tryWord sh_69 rfl (by decide) rfl rfl (Nat.le_of_ble_eq_true rfl) dX12_wrong_98 lk_RX12_m276 (by decide) (fun _ => rfl) h (fun r9 σ10 h => ?_)
      refine V_rng (fun hR11 => ?_)
      have h := h hR11
      refine V_iinc (L' := [(4, .int (gI (v4 + 1))), (0, .ref (cxA X 69)), (1, .int (gI v1)), (2, .int (gI v2)), (3, .int (gI v3))]) 4 rfl (by decide) rfl dX12_wrong_101 ?_
      refine V_goto (tgt := 69) dX12_wrong_104 (by decide) ?_
      exact V_sub [1, 2, 3, 4, 0] rfl h
set_option maxHeartbeats 2000000 in
set_option maxRecDepth 20000 in
theorem rX12_wrong_107 {X : Cx} {v1 : Int} {v2 : Int} {v3 : Int} {v4 : Int} {σ : Sg} {Q : Int → Sg → Prop} (h : Rng σ → GX12_wrong_110 X v1 v2 v3 5 σ Q) : GX12_wrong_107 X v1 v2 v3 v4 σ Q := by
  unfold GX12_wrong_107
  refine V_rng (fun hR0 => ?_)
  have h := h hR0
  refine V_iconst dX12_wrong_107 ?_
  refine V_istore (L' := [(4, .int (gI 5)), (0, .ref (cxA X 69)), (1, .int (gI v1)), (2, .int (gI v2)), (3, .int (gI v3))]) (by decide) rfl dX12_wrong_108 ?_
  exact V_sub [1, 2, 3, 4, 0] rfl h
set_option maxHeartbeats 2000000 in
set_option maxRecDepth 20000 in
theorem rX12_wrong_110 {X : Cx} {v1 : Int} {v2 : Int} {v3 : Int} {v4 : Int} {σ : Sg} {Q : Int → Sg → Prop} (h : Rng σ → (inI v4) ∧ ((7 < v4 → GX12_wrong_141 X v1 v2 v3 v4 σ Q) ∧ (v4 ≤ 7 → KX12_in X v3 5 7 σ (fun r3 σ4 => Rng σ4 → (inI r3) ∧ ((r3 = 0 → GX12_wrong_141 X v1 v2 v3 v4 σ4 Q) ∧ (¬ r3 = 0 → KX12_tryWord X v2 v4 0 σ4 (fun r8 σ9 => Rng σ9 → GX12_wrong_110 X v1 v2 v3 (v4 + 1) σ9 Q))))))) : GX12_wrong_110 X v1 v2 v3 v4 σ Q := by
  unfold GX12_wrong_110
  refine V_rng (fun hR0 => ?_)
  have h := h hR0
  refine V_iload 4 rfl dX12_wrong_110 ?_
  refine V_bipush (v := 7) (by decide) dX12_wrong_112 ?_
  obtain ⟨g1, h⟩ := h
  refine V_icmp_gt (tgt := 141) dX12_wrong_114 (by decide) g1 (by decide) (fun q2 => ?_) (fun q2 => ?_)
  · have h := h.1 q2
    exact h
  · have h := h.2 q2
    refine V_iload_n 3 rfl rfl dX12_wrong_117 ?_
    refine V_iconst dX12_wrong_118 ?_
    refine V_bipush (v := 7) (by decide) dX12_wrong_119 ?_
    refine V_cS (M' := mX12_in) (As := [.int (gI v3), .int (gI 5), .int (gI 7)]) (fun r => [.int (gI r)]) ok_X12_in ok2_X12_in rfl rfl (Nat.le_of_ble_eq_true rfl) dX12_wrong_121 lk_RX12_m102 (by decide) (fun _ => rfl) h (fun r3 σ4 h => ?_)
    refine V_rng (fun hR5 => ?_)
    have h := h hR5
    obtain ⟨g6, h⟩ := h
    refine V_if_eq (tgt := 141) dX12_wrong_124 (by decide) g6 (fun q7 => ?_) (fun q7 => ?_)
    · have h := h.1 q7
      exact h
    · have h := h.2 q7
      refine V_aload_n 0 rfl rfl dX12_wrong_127 ?_
      refine V_iload_n 2 rfl rfl dX12_wrong_128 ?_
      refine V_iload 4 rfl dX12_wrong_129 ?_
      refine V_iconst dX12_wrong_131 ?_
      refine V_cV (M' := mX12_tryWord) (As := [.int (gI v2), .int (gI v4), .int (gI 0)]) (fun _ => []) ok_X12_tryWord ok2_X12_tryWord sh_69 rfl (by decide) rfl rfl (Nat.le_of_ble_eq_true rfl) dX12_wrong_132 lk_RX12_m276 (by decide) (fun _ => rfl) h (fun r8 σ9 h => ?_)
      refine V_rng (fun hR10 => ?_)
      have h := h hR10
      refine V_iinc (L' := [(4, .int (gI (v4 + 1))), (0, .ref (cxA X 69)), (1, .int (gI v1)), (2, .int (gI v2)), (3, .int (gI v3))]) 4 rfl (by decide) rfl dX12_wrong_135 ?_
      refine V_goto (tgt := 110) dX12_wrong_138 (by decide) ?_
      exact V_sub [1, 2, 3, 4, 0] rfl h
set_option maxHeartbeats 2000000 in
set_option maxRecDepth 20000 in
theorem rX12_wrong_141 {X : Cx} {v1 : Int} {v2 : Int} {v3 : Int} {v4 : Int} {σ : Sg} {Q : Int → Sg → Prop} (h : Rng σ → KX12_in X v3 8 13 σ (fun r1 σ2 => Rng σ2 → (inI r1) ∧ ((r1 = 0 → GX12_wrong_173 X v1 v2 v3 v4 σ2 Q) ∧ (¬ r1 = 0 → ((¬ (zrem v3 2) = 0 → GX12_wrong_169 X v1 v2 v3 v4 (v3 - 1) v2 σ2 Q) ∧ ((zrem v3 2) = 0 → GX12_wrong_169 X v1 v2 v3 v4 (v3 + 1) v2 σ2 Q)))))) : GX12_wrong_141 X v1 v2 v3 v4 σ Q := by
  unfold GX12_wrong_141
  refine V_rng (fun hR0 => ?_)
  have h := h hR0
  refine V_iload_n 3 rfl rfl dX12_wrong_141 ?_
  refine V_bipush (v := 8) (by decide) dX12_wrong_142 ?_
  refine V_bipush (v := 13) (by decide) dX12_wrong_144 ?_
  refine V_cS (M' := mX12_in) (As := [.int (gI v3), .int (gI 8), .int (gI 13)]) (fun r => [.int (gI r)]) ok_X12_in ok2_X12_in rfl rfl (Nat.le_of_ble_eq_true rfl) dX12_wrong_146 lk_RX12_m102 (by decide) (fun _ => rfl) h (fun r1 σ2 h => ?_)
  refine V_rng (fun hR3 => ?_)
  have h := h hR3
  obtain ⟨g4, h⟩ := h
  refine V_if_eq (tgt := 173) dX12_wrong_149 (by decide) g4 (fun q5 => ?_) (fun q5 => ?_)
  · have h := h.1 q5
    exact h
  · have h := h.2 q5
    refine V_aload_n 0 rfl rfl dX12_wrong_152 ?_
    refine V_iload_n 2 rfl rfl dX12_wrong_153 ?_
    refine V_iload_n 3 rfl rfl dX12_wrong_154 ?_
    refine V_iconst dX12_wrong_155 ?_
    refine V_irem (by decide) dX12_wrong_156 ?_
    refine V_if_ne (tgt := 166) dX12_wrong_157 (by decide) (inI_z _) (fun q6 => ?_) (fun q6 => ?_)
    · have h := h.1 q6
      refine V_iload_n 3 rfl rfl dX12_wrong_166 ?_
      refine V_iconst dX12_wrong_167 ?_
      refine V_isub dX12_wrong_168 ?_
      exact h
    · have h := h.2 q6
      refine V_iload_n 3 rfl rfl dX12_wrong_160 ?_
      refine V_iconst dX12_wrong_161 ?_
      refine V_iadd dX12_wrong_162 ?_
      refine V_goto (tgt := 169) dX12_wrong_163 (by decide) ?_
      exact h
set_option maxHeartbeats 2000000 in
set_option maxRecDepth 20000 in
theorem rX12_wrong_169 {X : Cx} {v1 : Int} {v2 : Int} {v3 : Int} {v4 : Int} {s0 : Int} {s1 : Int} {σ : Sg} {Q : Int → Sg → Prop} (h : Rng σ → KX12_tryWord X s1 s0 0 σ (fun r1 σ2 => Rng σ2 → GX12_wrong_173 X v1 v2 v3 v4 σ2 Q)) : GX12_wrong_169 X v1 v2 v3 v4 s0 s1 σ Q := by
  unfold GX12_wrong_169
  refine V_rng (fun hR0 => ?_)
  have h := h hR0
  refine V_iconst dX12_wrong_169 ?_
  refine V_cV (M' := mX12_tryWord) (As := [.int (gI s1), .int (gI s0), .int (gI 0)]) (fun _ => []) ok_X12_tryWord ok2_X12_tryWord sh_69 rfl (by decide) rfl rfl (Nat.le_of_ble_eq_true rfl) dX12_wrong_170 lk_RX12_m276 (by decide) (fun _ => rfl) h (fun r1 σ2 h => ?_)
  refine V_rng (fun hR3 => ?_)
  have h := h hR3
  exact h
set_option maxHeartbeats 2000000 in
set_option maxRecDepth 20000 in
theorem rX12_wrong_173 {X : Cx} {v1 : Int} {v2 : Int} {v3 : Int} {v4 : Int} {σ : Sg} {Q : Int → Sg → Prop} (h : Rng σ → GX12_wrong_51 X v1 (v2 + 1) σ Q) : GX12_wrong_173 X v1 v2 v3 v4 σ Q := by
  unfold GX12_wrong_173
  refine V_rng (fun hR0 => ?_)
  have h := h hR0
  refine V_iinc (L' := [(2, .int (gI (v2 + 1))), (0, .ref (cxA X 69)), (1, .int (gI v1)), (3, .int (gI v3)), (4, .int (gI v4))]) 2 rfl (by decide) rfl dX12_wrong_173 ?_
  refine V_goto (tgt := 51) dX12_wrong_176 (by decide) ?_
  exact V_sub [1, 2, 0] rfl h
set_option maxHeartbeats 2000000 in
set_option maxRecDepth 20000 in
theorem rX12_wrong_183 {X : Cx} {v1 : Int} {v2 : Int} {v3 : Int} {σ : Sg} {Q : Int → Sg → Prop} (h : Rng σ → (inI v3) ∧ ((256 ≤ v3 → (inI v1) ∧ ((¬ v1 = 2 → ((¬ (σ 69 38) = 0 → (inI v1) ∧ ((¬ v1 = 0 → (0 ≤ v2 ∧ v2 < 256) ∧ Q (σ 97 v2.toNat) σ) ∧ (v1 = 0 → Q v2 σ))) ∧ ((σ 69 38) = 0 → Q ((-1)) σ))) ∧ (v1 = 2 → Q (σ 69 38) σ))) ∧ (v3 < 256 → (0 ≤ v3 ∧ v3 < 256) ∧ (0 ≤ v2 ∧ v2 < 256) ∧ (((σ 97 v3.toNat) ≤ (σ 97 v2.toNat) → GX12_wrong_210 X v1 v2 v3 v2 σ Q) ∧ ((σ 97 v2.toNat) < (σ 97 v3.toNat) → GX12_wrong_210 X v1 v2 v3 v3 σ Q))))) : GX12_wrong_183 X v1 v2 v3 σ Q := by
  unfold GX12_wrong_183
  refine V_rng (fun hR0 => ?_)
  have h := h hR0
  refine V_iload_n 3 rfl rfl dX12_wrong_183 ?_
  refine V_sipush (v := 256) (by decide) dX12_wrong_184 ?_
  obtain ⟨g1, h⟩ := h
  refine V_icmp_ge (tgt := 217) dX12_wrong_187 (by decide) g1 (by decide) (fun q2 => ?_) (fun q2 => ?_)
  · have h := h.1 q2
    refine V_iload_n 1 rfl rfl dX12_wrong_217 ?_
    refine V_iconst dX12_wrong_218 ?_
    obtain ⟨g3, h⟩ := h
    refine V_icmp_ne (tgt := 229) dX12_wrong_219 (by decide) g3 (by decide) (fun q4 => ?_) (fun q4 => ?_)
    · have h := h.1 q4
      refine V_aload_n 0 rfl rfl dX12_wrong_229 ?_
      refine V_getI (f := 38) ci_X12 sh_69 rfl (by decide) dX12_wrong_230 lk_RX12_f273 ?_
      refine V_if_ne (tgt := 240) dX12_wrong_233 (by decide) (show inI (σ 69 38) from (hR0.1 69 38 (by decide))) (fun q5 => ?_) (fun q5 => ?_)
      · have h := h.1 q5
        refine V_iload_n 1 rfl rfl dX12_wrong_240 ?_
        obtain ⟨g6, h⟩ := h
        refine V_if_ne (tgt := 248) dX12_wrong_241 (by decide) g6 (fun q7 => ?_) (fun q7 => ?_)
        · have h := h.1 q7
          refine V_aload_n 0 rfl rfl dX12_wrong_248 ?_
          refine V_getR (f := 37) ci_X12 sh_69 rfl (by decide) (c1 := 97) rfl dX12_wrong_249 lk_RX12_f92 ?_
          refine V_iload_n 2 rfl rfl dX12_wrong_252 ?_
          obtain ⟨g8, h⟩ := h
          refine V_iald sh_97 (by decide) g8 dX12_wrong_253 ?_
          exact V_iret rfl (fun _ q => by cases q) (vp_nar_int _) dX12_wrong_254 h
        · have h := h.2 q7
          refine V_iload_n 2 rfl rfl dX12_wrong_244 ?_
          refine V_goto (tgt := 254) dX12_wrong_245 (by decide) ?_
          exact V_iret rfl (fun _ q => by cases q) (vp_nar_int _) dX12_wrong_254 h
      · have h := h.2 q5
        refine V_iconst dX12_wrong_236 ?_
        refine V_goto (tgt := 254) dX12_wrong_237 (by decide) ?_
        exact V_iret rfl (fun _ q => by cases q) (vp_nar_int _) dX12_wrong_254 h
    · have h := h.2 q4
      refine V_aload_n 0 rfl rfl dX12_wrong_222 ?_
      refine V_getI (f := 38) ci_X12 sh_69 rfl (by decide) dX12_wrong_223 lk_RX12_f273 ?_
      refine V_goto (tgt := 254) dX12_wrong_226 (by decide) ?_
      exact V_iret rfl (fun _ q => by cases q) (vp_nar_int _) dX12_wrong_254 h
  · have h := h.2 q2
    refine V_aload_n 0 rfl rfl dX12_wrong_190 ?_
    refine V_getR (f := 37) ci_X12 sh_69 rfl (by decide) (c1 := 97) rfl dX12_wrong_191 lk_RX12_f92 ?_
    refine V_iload_n 3 rfl rfl dX12_wrong_194 ?_
    obtain ⟨g9, h⟩ := h
    refine V_iald sh_97 (by decide) g9 dX12_wrong_195 ?_
    refine V_aload_n 0 rfl rfl dX12_wrong_196 ?_
    refine V_getR (f := 37) ci_X12 sh_69 rfl (by decide) (c1 := 97) rfl dX12_wrong_197 lk_RX12_f92 ?_
    refine V_iload_n 2 rfl rfl dX12_wrong_200 ?_
    obtain ⟨g10, h⟩ := h
    refine V_iald sh_97 (by decide) g10 dX12_wrong_201 ?_
    refine V_icmp_le (tgt := 209) dX12_wrong_202 (by decide) (show inI (σ 97 v3.toNat) from (inI_sh hR0 sh_97 (by decide))) (show inI (σ 97 v2.toNat) from (inI_sh hR0 sh_97 (by decide))) (fun q11 => ?_) (fun q11 => ?_)
    · have h := h.1 q11
      refine V_iload_n 2 rfl rfl dX12_wrong_209 ?_
      exact h
    · have h := h.2 q11
      refine V_iload_n 3 rfl rfl dX12_wrong_205 ?_
      refine V_goto (tgt := 210) dX12_wrong_206 (by decide) ?_
      exact h
set_option maxHeartbeats 2000000 in
set_option maxRecDepth 20000 in
theorem rX12_wrong_210 {X : Cx} {v1 : Int} {v2 : Int} {v3 : Int} {s0 : Int} {σ : Sg} {Q : Int → Sg → Prop} (h : Rng σ → GX12_wrong_183 X v1 s0 (v3 + 1) σ Q) : GX12_wrong_210 X v1 v2 v3 s0 σ Q := by
  unfold GX12_wrong_210
  refine V_rng (fun hR0 => ?_)
  have h := h hR0
  refine V_istore_n (L' := [(2, .int (gI s0)), (0, .ref (cxA X 69)), (1, .int (gI v1)), (3, .int (gI v3))]) rfl (by decide) rfl dX12_wrong_210 ?_
  refine V_iinc (L' := [(3, .int (gI (v3 + 1))), (2, .int (gI s0)), (0, .ref (cxA X 69)), (1, .int (gI v1))]) 3 rfl (by decide) rfl dX12_wrong_211 ?_
  refine V_goto (tgt := 183) dX12_wrong_214 (by decide) ?_
  exact V_sub [2, 3, 1, 0] rfl h
theorem eX12_wrong {X : Cx} {v1 : Int} {σ : Sg} {Q : Int → Sg → Prop} (h : GX12_wrong_0 X v1 σ Q) : KX12_wrong X v1 σ Q := V_enter (by decide) (Nat.le_of_ble_eq_true rfl) rfl h
def GX12_name_0 (X : Cx) (v1 : Int) (σ : Sg) (Q : Int → Sg → Prop) : Prop := VV X mX12_name 0 [(0, .ref (cxA X 69)), (1, .int (gI v1))] [] σ Q
set_option maxHeartbeats 2000000 in
set_option maxRecDepth 20000 in
theorem rX12_name_0 {X : Cx} {v1 : Int} {σ : Sg} {Q : Int → Sg → Prop} (h : Rng σ → KX12_isThing X v1 σ (fun r1 σ2 => Rng σ2 → (inI r1) ∧ ((¬ r1 = 0 → ((¬ (σ2 69 39) = 12 → (0 ≤ σ2 69 39 ∧ σ2 69 39 < 12) ∧ (inI v1) ∧ (inI ((σ2 69 39) + 1)) ∧ Q ((σ2 69 39) + 1) (up2 (up2 σ2 98 ((σ2 69 39).toNat) v1) 69 39 ((σ2 69 39) + 1))) ∧ ((σ2 69 39) = 12 → Q ((-5)) σ2))) ∧ (r1 = 0 → Q ((-2)) σ2)))) : GX12_name_0 X v1 σ Q := by
  unfold GX12_name_0
  refine V_rng (fun hR0 => ?_)
  have h := h hR0
  refine V_aload_n 0 rfl rfl dX12_name_0 ?_
  refine V_iload_n 1 rfl rfl dX12_name_1 ?_
  refine V_cV (M' := mX12_isThing) (As := [.int (gI v1)]) (fun r => [.int (gI r)]) ok_X12_isThing ok2_X12_isThing sh_69 rfl (by decide) rfl rfl (Nat.le_of_ble_eq_true rfl) dX12_name_2 lk_RX12_m106 (by decide) (fun _ => rfl) h (fun r1 σ2 h => ?_)
  refine V_rng (fun hR3 => ?_)
  have h := h hR3
  obtain ⟨g4, h⟩ := h
  refine V_if_ne (tgt := 11) dX12_name_5 (by decide) g4 (fun q5 => ?_) (fun q5 => ?_)
  · have h := h.1 q5
    refine V_aload_n 0 rfl rfl dX12_name_11 ?_
    refine V_getI (f := 39) ci_X12 sh_69 rfl (by decide) dX12_name_12 lk_RX12_f280 ?_
    refine V_bipush (v := 12) (by decide) dX12_name_15 ?_
    refine V_icmp_ne (tgt := 23) dX12_name_17 (by decide) (show inI (σ2 69 39) from (hR3.1 69 39 (by decide))) (by decide) (fun q6 => ?_) (fun q6 => ?_)
    · have h := h.1 q6
      refine V_aload_n 0 rfl rfl dX12_name_23 ?_
      refine V_getR (f := 40) ci_X12 sh_69 rfl (by decide) (c1 := 98) rfl dX12_name_24 lk_RX12_f95 ?_
      refine V_aload_n 0 rfl rfl dX12_name_27 ?_
      refine V_getI (f := 39) ci_X12 sh_69 rfl (by decide) dX12_name_28 lk_RX12_f280 ?_
      refine V_iload_n 1 rfl rfl dX12_name_31 ?_
      obtain ⟨g7, h⟩ := h
      obtain ⟨g8, h⟩ := h
      refine V_iast sh_98 (by decide) g7 g8 dX12_name_32 ?_
      refine V_aload_n 0 rfl rfl dX12_name_33 ?_
      refine V_dup rfl dX12_name_34 ?_
      refine V_getI (f := 39) ci_X12 sh_69 rfl (by decide) dX12_name_35 lk_RX12_f280 ?_
      refine V_iconst dX12_name_38 ?_
      refine V_iadd dX12_name_39 ?_
      obtain ⟨g9, h⟩ := h
      refine V_putI (f := 39) ci_X12 sh_69 rfl (by decide) rfl rfl g9 dX12_name_40 lk_RX12_f280 ?_
      refine V_aload_n 0 rfl rfl dX12_name_43 ?_
      refine V_getI (f := 39) ci_X12 sh_69 rfl (by decide) dX12_name_44 lk_RX12_f280 ?_
      exact V_iret rfl (fun _ q => by cases q) (vp_nar_int _) dX12_name_47 h
    · have h := h.2 q6
      refine V_bipush (v := -5) (by decide) dX12_name_20 ?_
      exact V_iret rfl (fun _ q => by cases q) (vp_nar_int _) dX12_name_22 h
  · have h := h.2 q5
    refine V_bipush (v := -2) (by decide) dX12_name_8 ?_
    exact V_iret rfl (fun _ q => by cases q) (vp_nar_int _) dX12_name_10 h
theorem eX12_name {X : Cx} {v1 : Int} {σ : Sg} {Q : Int → Sg → Prop} (h : GX12_name_0 X v1 σ Q) : KX12_name X v1 σ Q := V_enter (by decide) (Nat.le_of_ble_eq_true rfl) rfl h
def GX12_hush_0 (X : Cx) (σ : Sg) (Q : Int → Sg → Prop) : Prop := VV X mX12_hush 0 [(0, .ref (cxA X 69))] [] σ Q
set_option maxHeartbeats 2000000 in
set_option maxRecDepth 20000 in
theorem rX12_hush_0 {X : Cx} {σ : Sg} {Q : Int → Sg → Prop} (h : Rng σ → Q (σ 69 39) (up2 σ 69 39 0)) : GX12_hush_0 X σ Q := by
  unfold GX12_hush_0
  refine V_rng (fun hR0 => ?_)
  have h := h hR0
  refine V_aload_n 0 rfl rfl dX12_hush_0 ?_
  refine V_getI (f := 39) ci_X12 sh_69 rfl (by decide) dX12_hush_1 lk_RX12_f280 ?_
  refine V_istore_n (L' := [(1, .int (gI (σ 69 39))), (0, .ref (cxA X 69))]) rfl (by decide) rfl dX12_hush_4 ?_
  refine V_aload_n 1 rfl rfl dX12_hush_5 ?_
  refine V_iconst dX12_hush_6 ?_
  refine V_putI (f := 39) ci_X12 sh_69 rfl (by decide) rfl rfl (by decide) dX12_hush_7 lk_RX12_f280 ?_
  refine V_iload_n 0 rfl rfl dX12_hush_10 ?_
  exact V_iret rfl (fun _ q => by cases q) (vp_nar_int _) dX12_hush_11 h
theorem eX12_hush {X : Cx} {σ : Sg} {Q : Int → Sg → Prop} (h : GX12_hush_0 X σ Q) : KX12_hush X σ Q := V_enter (by decide) (Nat.le_of_ble_eq_true rfl) rfl h
def GX12_talk_0 (X : Cx) (v1 : Int) (σ : Sg) (Q : Int → Sg → Prop) : Prop := VV X mX12_talk 0 [(0, .ref (cxA X 69)), (1, .int (gI v1))] [] σ Q
def GX12_talk_25 (X : Cx) (v1 : Int) (v2 : Int) (v3 : Int) (v4 : Int) (v5 : Int) (σ : Sg) (Q : Int → Sg → Prop) : Prop := VV X mX12_talk 25 [(0, .ref (cxA X 69)), (1, .int (gI v1)), (2, .int (gI v2)), (3, .int (gI v3)), (4, .int (gI v4)), (5, .int (gI v5))] [] σ Q
def GX12_talk_83 (X : Cx) (v1 : Int) (v2 : Int) (v3 : Int) (v4 : Int) (v5 : Int) (v6 : Int) (v7 : Int) (σ : Sg) (Q : Int → Sg → Prop) : Prop := VV X mX12_talk 83 [(0, .ref (cxA X 69)), (1, .int (gI v1)), (2, .int (gI v2)), (3, .int (gI v3)), (4, .int (gI v4)), (5, .int (gI v5)), (6, .int (gI v6)), (7, .int (gI v7))] [] σ Q
def GX12_talk_87 (X : Cx) (v1 : Int) (v2 : Int) (v3 : Int) (v4 : Int) (v5 : Int) (v6 : Int) (v7 : Int) (σ : Sg) (Q : Int → Sg → Prop) : Prop := VV X mX12_talk 87 [(0, .ref (cxA X 69)), (1, .int (gI v1)), (2, .int (gI v2)), (3, .int (gI v3)), (4, .int (gI v4)), (5, .int (gI v5)), (6, .int (gI v6)), (7, .int (gI v7))] [] σ Q
def GX12_talk_89 (X : Cx) (v1 : Int) (v2 : Int) (v3 : Int) (v4 : Int) (v5 : Int) (v6 : Int) (v7 : Int) (s0 : Int) (σ : Sg) (Q : Int → Sg → Prop) : Prop := VV X mX12_talk 89 [(0, .ref (cxA X 69)), (1, .int (gI v1)), (2, .int (gI v2)), (3, .int (gI v3)), (4, .int (gI v4)), (5, .int (gI v5)), (6, .int (gI v6)), (7, .int (gI v7))] [.int (gI s0)] σ Q
def GX12_talk_116 (X : Cx) (v1 : Int) (v2 : Int) (v3 : Int) (v4 : Int) (v5 : Int) (v6 : Int) (v7 : Int) (s0 : Int) (σ : Sg) (Q : Int → Sg → Prop) : Prop := VV X mX12_talk 116 [(0, .ref (cxA X 69)), (1, .int (gI v1)), (2, .int (gI v2)), (3, .int (gI v3)), (4, .int (gI v4)), (5, .int (gI v5)), (6, .int (gI v6)), (7, .int (gI v7))] [.int (gI s0)] σ Q
set_option maxHeartbeats 2000000 in
set_option maxRecDepth 20000 in
theorem rX12_talk_0 {X : Cx} {v1 : Int} {σ : Sg} {Q : Int → Sg → Prop} (h : Rng σ → KX12_areWords X v1 σ (fun r1 σ2 => Rng σ2 → (inI r1) ∧ ((¬ r1 = 0 → KX12_search X v1 σ2 (fun r6 σ7 => Rng σ7 → GX12_talk_25 X v1 0 ((-1)) ((-1)) 0 σ7 Q)) ∧ (r1 = 0 → Q ((-3)) σ2)))) : GX12_talk_0 X v1 σ Q := by
  unfold GX12_talk_0
  refine V_rng (fun hR0 => ?_)
  have h := h hR0
  refine V_iload_n 1 rfl rfl dX12_talk_0 ?_
  refine V_cS (M' := mX12_areWords) (As := [.int (gI v1)]) (fun r => [.int (gI r)]) ok_X12_areWords ok2_X12_areWords rfl rfl (Nat.le_of_ble_eq_true rfl) dX12_talk_1 lk_RX12_m249 (by decide) (fun _ => rfl) h (fun r1 σ2 h => ?_)
  refine V_rng (fun hR3 => ?_)
  have h := h hR3
  obtain ⟨g4, h⟩ := h
  refine V_if_ne (tgt := 10) dX12_talk_4 (by decide) g4 (fun q5 => ?_) (fun q5 => ?_)
  · have h := h.1 q5
    refine V_aload_n 0 rfl rfl dX12_talk_10 ?_
    refine V_iload_n 1 rfl rfl dX12_talk_11 ?_
    refine V_cV (M' := mX12_search) (As := [.int (gI v1)]) (fun _ => []) ok_X12_search ok2_X12_search sh_69 rfl (by decide) rfl rfl (Nat.le_of_ble_eq_true rfl) dX12_talk_12 lk_RX12_m252 (by decide) (fun _ => rfl) h (fun r6 σ7 h => ?_)
    refine V_rng (fun hR8 => ?_)
    have h := h hR8
    refine V_iconst dX12_talk_15 ?_
    refine V_istore_n (L' := [(2, .int (gI 0)), (0, .ref (cxA X 69)), (1, .int (gI v1))]) rfl (by decide) rfl dX12_talk_16 ?_
    refine V_iconst dX12_talk_17 ?_
    refine V_istore_n (L' := [(3, .int (gI ((-1)))), (2, .int (gI 0)), (0, .ref (cxA X 69)), (1, .int (gI v1))]) rfl (by decide) rfl dX12_talk_18 ?_
    refine V_iconst dX12_talk_19 ?_
    refine V_istore (L' := [(4, .int (gI ((-1)))), (3, .int (gI ((-1)))), (2, .int (gI 0)), (0, .ref (cxA X 69)), (1, .int (gI v1))]) (by decide) rfl dX12_talk_20 ?_
    refine V_iconst dX12_talk_22 ?_
    refine V_istore (L' := [(5, .int (gI 0)), (4, .int (gI ((-1)))), (3, .int (gI ((-1)))), (2, .int (gI 0)), (0, .ref (cxA X 69)), (1, .int (gI v1))]) (by decide) rfl dX12_talk_23 ?_
    exact V_sub [4, 5, 3, 2, 1, 0] rfl h
  · have h := h.2 q5
    refine V_bipush (v := -3) (by decide) dX12_talk_7 ?_
    exact V_iret rfl (fun _ q => by cases q) (vp_nar_int _) dX12_talk_9 h
set_option maxHeartbeats 2000000 in
set_option maxRecDepth 20000 in
theorem rX12_talk_25 {X : Cx} {v1 : Int} {v2 : Int} {v3 : Int} {v4 : Int} {v5 : Int} {σ : Sg} {Q : Int → Sg → Prop} (h : Rng σ → (inI v5) ∧ (((σ 69 39) ≤ v5 → Q v2 σ) ∧ (v5 < (σ 69 39) → (0 ≤ v5 ∧ v5 < 12) ∧ (0 ≤ zshl 1 (σ 98 v5.toNat) ∧ zshl 1 (σ 98 v5.toNat) < 256) ∧ (inI v3) ∧ ((¬ (σ 98 v5.toNat) = v3 → (inI v4) ∧ ((¬ (σ 98 v5.toNat) = v4 → GX12_talk_87 X v1 v2 v3 v4 v5 (σ 98 v5.toNat) (σ 84 ((zshl 1 (σ 98 v5.toNat)).toNat)) σ Q) ∧ ((σ 98 v5.toNat) = v4 → (((σ 84 ((zshl 1 (σ 98 v5.toNat)).toNat)) = ((-1)) → GX12_talk_83 X v1 v2 v3 v4 v5 (σ 98 v5.toNat) (σ 84 ((zshl 1 (σ 98 v5.toNat)).toNat)) σ Q) ∧ (¬ (σ 84 ((zshl 1 (σ 98 v5.toNat)).toNat)) = ((-1)) → (((σ 84 ((zshl 1 (σ 98 v5.toNat)).toNat)) ≤ 2 → GX12_talk_87 X v1 v2 v3 v4 v5 (σ 98 v5.toNat) (σ 84 ((zshl 1 (σ 98 v5.toNat)).toNat)) σ Q) ∧ (2 < (σ 84 ((zshl 1 (σ 98 v5.toNat)).toNat)) → GX12_talk_83 X v1 v2 v3 v4 v5 (σ 98 v5.toNat) (σ 84 ((zshl 1 (σ 98 v5.toNat)).toNat)) σ Q))))))) ∧ ((σ 98 v5.toNat) = v3 → GX12_talk_89 X v1 v2 v3 v4 v5 (σ 98 v5.toNat) (σ 84 ((zshl 1 (σ 98 v5.toNat)).toNat)) 1 σ Q))))) : GX12_talk_25 X v1 v2 v3 v4 v5 σ Q := by
  unfold GX12_talk_25
  refine V_rng (fun hR0 => ?_)
  have h := h hR0
  refine V_iload 5 rfl dX12_talk_25 ?_
  refine V_aload_n 0 rfl rfl dX12_talk_27 ?_
  refine V_getI (f := 39) ci_X12 sh_69 rfl (by decide) dX12_talk_28 lk_RX12_f280 ?_
  obtain ⟨g1, h⟩ := h
  refine V_icmp_ge (tgt := 127) dX12_talk_31 (by decide) g1 (show inI (σ 69 39) from (hR0.1 69 39 (by decide))) (fun q2 => ?_) (fun q2 => ?_)
  · have h := h.1 q2
    refine V_iload_n 2 rfl rfl dX12_talk_127 ?_
    exact V_iret rfl (fun _ q => by cases q) (vp_nar_int _) dX12_talk_128 h
  · have h := h.2 q2
    refine V_aload_n 0 rfl rfl dX12_talk_34 ?_
    refine V_getR (f := 40) ci_X12 sh_69 rfl (by decide) (c1 := 98) rfl dX12_talk_35 lk_RX12_f95 ?_
    refine V_iload 5 rfl dX12_talk_38 ?_
    obtain ⟨g3, h⟩ := h
    refine V_iald sh_98 (by decide) g3 dX12_talk_40 ?_
    refine V_istore (L' := [(6, .int (gI (σ 98 v5.toNat))), (0, .ref (cxA X 69)), (1, .int (gI v1)), (2, .int (gI v2)), (3, .int (gI v3)), (4, .int (gI v4)), (5, .int (gI v5))]) (by decide) rfl dX12_talk_41 ?_
    refine V_aload_n 1 rfl rfl dX12_talk_43 ?_
    refine V_getR (f := 24) ci_X12 sh_69 rfl (by decide) (c1 := 84) rfl dX12_talk_44 lk_RX12_f52 ?_
    refine V_iconst dX12_talk_47 ?_
    refine V_iload 0 rfl dX12_talk_48 ?_
    refine V_ishl dX12_talk_50 ?_
    obtain ⟨g4, h⟩ := h
    refine V_iald sh_84 (by decide) g4 dX12_talk_51 ?_
    refine V_istore (L' := [(7, .int (gI (σ 84 ((zshl 1 (σ 98 v5.toNat)).toNat)))), (6, .int (gI (σ 98 v5.toNat))), (0, .ref (cxA X 69)), (1, .int (gI v1)), (2, .int (gI v2)), (3, .int (gI v3)), (4, .int (gI v4)), (5, .int (gI v5))]) (by decide) rfl dX12_talk_52 ?_
    refine V_iload 1 rfl dX12_talk_54 ?_
    refine V_iload_n 5 rfl rfl dX12_talk_56 ?_
    obtain ⟨g5, h⟩ := h
    refine V_icmp_ne (tgt := 64) dX12_talk_57 (by decide) (show inI (σ 98 v5.toNat) from (inI_sh hR0 sh_98 (by decide))) g5 (fun q6 => ?_) (fun q6 => ?_)
    · have h := h.1 q6
      refine V_iload 1 rfl dX12_talk_64 ?_
      refine V_iload 6 rfl dX12_talk_66 ?_
      obtain ⟨g7, h⟩ := h
      refine V_icmp_ne (tgt := 87) dX12_talk_68 (by decide) (show inI (σ 98 v5.toNat) from (inI_sh hR0 sh_98 (by decide))) g7 (fun q8 => ?_) (fun q8 => ?_)
      · have h := h.1 q8
        exact V_sub [2, 3, 4, 5, 6, 7, 1, 0] rfl h
      · have h := h.2 q8
        refine V_iload 0 rfl dX12_talk_71 ?_
        refine V_iconst dX12_talk_73 ?_
        refine V_icmp_eq (tgt := 83) dX12_talk_74 (by decide) (show inI (σ 84 ((zshl 1 (σ 98 v5.toNat)).toNat)) from (inI_sh hR0 sh_84 (by decide))) (by decide) (fun q9 => ?_) (fun q9 => ?_)
        · have h := h.1 q9
          exact V_sub [2, 3, 4, 5, 6, 7, 1, 0] rfl h
        · have h := h.2 q9
          refine V_iload 0 rfl dX12_talk_77 ?_
          refine V_iconst dX12_talk_79 ?_
          refine V_icmp_le (tgt := 87) dX12_talk_80 (by decide) (show inI (σ 84 ((zshl 1 (σ 98 v5.toNat)).toNat)) from (inI_sh hR0 sh_84 (by decide))) (by decide) (fun q10 => ?_) (fun q10 => ?_)
          · have h := h.1 q10
            exact V_sub [2, 3, 4, 5, 6, 7, 1, 0] rfl h
          · have h := h.2 q10
            exact V_sub [2, 3, 4, 5, 6, 7, 1, 0] rfl h
    · have h := h.2 q6
      refine V_iconst dX12_talk_60 ?_
      refine V_goto (tgt := 89) dX12_talk_61 (by decide) ?_
      exact V_sub [2, 3, 4, 5, 6, 7, 1, 0] rfl h
set_option maxHeartbeats 2000000 in
set_option maxRecDepth 20000 in
theorem rX12_talk_83 {X : Cx} {v1 : Int} {v2 : Int} {v3 : Int} {v4 : Int} {v5 : Int} {v6 : Int} {v7 : Int} {σ : Sg} {Q : Int → Sg → Prop} (h : Rng σ → GX12_talk_89 X v1 v2 v3 v4 v5 v6 v7 2 σ Q) : GX12_talk_83 X v1 v2 v3 v4 v5 v6 v7 σ Q := by
  unfold GX12_talk_83
  refine V_rng (fun hR0 => ?_)
  have h := h hR0
  refine V_iconst dX12_talk_83 ?_
  refine V_goto (tgt := 89) dX12_talk_84 (by decide) ?_
  exact h
set_option maxHeartbeats 2000000 in
set_option maxRecDepth 20000 in
theorem rX12_talk_87 {X : Cx} {v1 : Int} {v2 : Int} {v3 : Int} {v4 : Int} {v5 : Int} {v6 : Int} {v7 : Int} {σ : Sg} {Q : Int → Sg → Prop} (h : Rng σ → GX12_talk_89 X v1 v2 v3 v4 v5 v6 v7 v7 σ Q) : GX12_talk_87 X v1 v2 v3 v4 v5 v6 v7 σ Q := by
  unfold GX12_talk_87
  refine V_rng (fun hR0 => ?_)
  have h := h hR0
  refine V_iload 7 rfl dX12_talk_87 ?_
  exact h
set_option maxHeartbeats 2000000 in
set_option maxRecDepth 20000 in
theorem rX12_talk_89 {X : Cx} {v1 : Int} {v2 : Int} {v3 : Int} {v4 : Int} {v5 : Int} {v6 : Int} {v7 : Int} {s0 : Int} {σ : Sg} {Q : Int → Sg → Prop} (h : Rng σ → (inI s0) ∧ ((¬ s0 = ((-1)) → (inI v6) ∧ (inI v3) ∧ ((¬ v6 = v3 → GX12_talk_116 X v1 (v2 + s0) v3 v4 v5 v6 s0 v3 σ Q) ∧ (v6 = v3 → GX12_talk_116 X v1 (v2 + s0) v3 v4 v5 v6 s0 v4 σ Q))) ∧ (s0 = ((-1)) → Q ((-1)) σ))) : GX12_talk_89 X v1 v2 v3 v4 v5 v6 v7 s0 σ Q := by
  unfold GX12_talk_89
  refine V_rng (fun hR0 => ?_)
  have h := h hR0
  refine V_istore (L' := [(7, .int (gI s0)), (0, .ref (cxA X 69)), (1, .int (gI v1)), (2, .int (gI v2)), (3, .int (gI v3)), (4, .int (gI v4)), (5, .int (gI v5)), (6, .int (gI v6))]) (by decide) rfl dX12_talk_89 ?_
  refine V_iload 0 rfl dX12_talk_91 ?_
  refine V_iconst dX12_talk_93 ?_
  obtain ⟨g1, h⟩ := h
  refine V_icmp_ne (tgt := 99) dX12_talk_94 (by decide) g1 (by decide) (fun q2 => ?_) (fun q2 => ?_)
  · have h := h.1 q2
    refine V_iload_n 3 rfl rfl dX12_talk_99 ?_
    refine V_iload 0 rfl dX12_talk_100 ?_
    refine V_iadd dX12_talk_102 ?_
    refine V_istore_n (L' := [(2, .int (gI (v2 + s0))), (7, .int (gI s0)), (0, .ref (cxA X 69)), (1, .int (gI v1)), (3, .int (gI v3)), (4, .int (gI v4)), (5, .int (gI v5)), (6, .int (gI v6))]) rfl (by decide) rfl dX12_talk_103 ?_
    refine V_iload 7 rfl dX12_talk_104 ?_
    refine V_iload_n 4 rfl rfl dX12_talk_106 ?_
    obtain ⟨g3, h⟩ := h
    obtain ⟨g4, h⟩ := h
    refine V_icmp_ne (tgt := 115) dX12_talk_107 (by decide) g3 g4 (fun q5 => ?_) (fun q5 => ?_)
    · have h := h.1 q5
      refine V_iload_n 4 rfl rfl dX12_talk_115 ?_
      exact V_sub [2, 3, 0, 4, 5, 6, 7, 1] rfl h
    · have h := h.2 q5
      refine V_iload 5 rfl dX12_talk_110 ?_
      refine V_goto (tgt := 116) dX12_talk_112 (by decide) ?_
      exact V_sub [2, 3, 0, 4, 5, 6, 7, 1] rfl h
  · have h := h.2 q2
    refine V_iconst dX12_talk_97 ?_
    exact V_iret rfl (fun _ q => by cases q) (vp_nar_int _) dX12_talk_98 h
set_option maxHeartbeats 2000000 in
set_option maxRecDepth 20000 in
theorem rX12_talk_116 {X : Cx} {v1 : Int} {v2 : Int} {v3 : Int} {v4 : Int} {v5 : Int} {v6 : Int} {v7 : Int} {s0 : Int} {σ : Sg} {Q : Int → Sg → Prop} (h : Rng σ → GX12_talk_25 X v1 v2 v6 s0 (v5 + 1) σ Q) : GX12_talk_116 X v1 v2 v3 v4 v5 v6 v7 s0 σ Q := by
  unfold GX12_talk_116
  refine V_rng (fun hR0 => ?_)
  have h := h hR0
  refine V_istore (L' := [(4, .int (gI s0)), (0, .ref (cxA X 69)), (1, .int (gI v1)), (2, .int (gI v2)), (3, .int (gI v3)), (5, .int (gI v5)), (6, .int (gI v6)), (7, .int (gI v7))]) (by decide) rfl dX12_talk_116 ?_
  refine V_iload 6 rfl dX12_talk_118 ?_
  refine V_istore_n (L' := [(3, .int (gI v6)), (4, .int (gI s0)), (0, .ref (cxA X 69)), (1, .int (gI v1)), (2, .int (gI v2)), (5, .int (gI v5)), (6, .int (gI v6)), (7, .int (gI v7))]) rfl (by decide) rfl dX12_talk_120 ?_
  refine V_iinc (L' := [(5, .int (gI (v5 + 1))), (3, .int (gI v6)), (4, .int (gI s0)), (0, .ref (cxA X 69)), (1, .int (gI v1)), (2, .int (gI v2)), (6, .int (gI v6)), (7, .int (gI v7))]) 5 rfl (by decide) rfl dX12_talk_121 ?_
  refine V_goto (tgt := 25) dX12_talk_124 (by decide) ?_
  exact V_sub [3, 4, 5, 1, 2, 0] rfl h
theorem eX12_talk {X : Cx} {v1 : Int} {σ : Sg} {Q : Int → Sg → Prop} (h : GX12_talk_0 X v1 σ Q) : KX12_talk X v1 σ Q := V_enter (by decide) (Nat.le_of_ble_eq_true rfl) rfl h
def GX12_worthOf_0 (X : Cx) (v1 : Int) (σ : Sg) (Q : Int → Sg → Prop) : Prop := VV X mX12_worthOf 0 [(0, .ref (cxA X 69)), (1, .int (gI v1))] [] σ Q
def GX12_worthOf_9 (X : Cx) (v1 : Int) (v2 : Int) (v3 : Int) (σ : Sg) (Q : Int → Sg → Prop) : Prop := VV X mX12_worthOf 9 [(0, .ref (cxA X 69)), (1, .int (gI v1)), (2, .int (gI v2)), (3, .int (gI v3))] [] σ Q
def GX12_worthOf_43 (X : Cx) (v1 : Int) (v2 : Int) (v3 : Int) (s0 : Int) (s1 : Int) (σ : Sg) (Q : Int → Sg → Prop) : Prop := VV X mX12_worthOf 43 [(0, .ref (cxA X 69)), (1, .int (gI v1)), (2, .int (gI v2)), (3, .int (gI v3))] [.int (gI s0), .int (gI s1)] σ Q
set_option maxHeartbeats 2000000 in
set_option maxRecDepth 20000 in
theorem rX12_worthOf_0 {X : Cx} {v1 : Int} {σ : Sg} {Q : Int → Sg → Prop} (h : Rng σ → KX12_search X v1 σ (fun r1 σ2 => Rng σ2 → GX12_worthOf_9 X v1 0 0 σ2 Q)) : GX12_worthOf_0 X v1 σ Q := by
  unfold GX12_worthOf_0
  refine V_rng (fun hR0 => ?_)
  have h := h hR0
  refine V_aload_n 0 rfl rfl dX12_worthOf_0 ?_
  refine V_iload_n 1 rfl rfl dX12_worthOf_1 ?_
  refine V_cV (M' := mX12_search) (As := [.int (gI v1)]) (fun _ => []) ok_X12_search ok2_X12_search sh_69 rfl (by decide) rfl rfl (Nat.le_of_ble_eq_true rfl) dX12_worthOf_2 lk_RX12_m252 (by decide) (fun _ => rfl) h (fun r1 σ2 h => ?_)
  refine V_rng (fun hR3 => ?_)
  have h := h hR3
  refine V_iconst dX12_worthOf_5 ?_
  refine V_istore_n (L' := [(2, .int (gI 0)), (0, .ref (cxA X 69)), (1, .int (gI v1))]) rfl (by decide) rfl dX12_worthOf_6 ?_
  refine V_iconst dX12_worthOf_7 ?_
  refine V_istore_n (L' := [(3, .int (gI 0)), (2, .int (gI 0)), (0, .ref (cxA X 69)), (1, .int (gI v1))]) rfl (by decide) rfl dX12_worthOf_8 ?_
  exact V_sub [2, 3, 1, 0] rfl h
set_option maxHeartbeats 2000000 in
set_option maxRecDepth 20000 in
theorem rX12_worthOf_9 {X : Cx} {v1 : Int} {v2 : Int} {v3 : Int} {σ : Sg} {Q : Int → Sg → Prop} (h : Rng σ → (inI v3) ∧ (((σ 69 0) ≤ v3 → Q v2 σ) ∧ (v3 < (σ 69 0) → (0 ≤ zshl 1 v3 ∧ zshl 1 v3 < 256) ∧ ((¬ (σ 84 ((zshl 1 v3).toNat)) = ((-1)) → (0 ≤ zshl 1 v3 ∧ zshl 1 v3 < 256) ∧ GX12_worthOf_43 X v1 v2 v3 (σ 84 ((zshl 1 v3).toNat)) v2 σ Q) ∧ ((σ 84 ((zshl 1 v3).toNat)) = ((-1)) → GX12_worthOf_43 X v1 v2 v3 50 v2 σ Q))))) : GX12_worthOf_9 X v1 v2 v3 σ Q := by
  unfold GX12_worthOf_9
  refine V_rng (fun hR0 => ?_)
  have h := h hR0
  refine V_iload_n 3 rfl rfl dX12_worthOf_9 ?_
  refine V_aload_n 0 rfl rfl dX12_worthOf_10 ?_
  refine V_getI (f := 0) ci_X12 sh_69 rfl (by decide) dX12_worthOf_11 lk_RX12_f98 ?_
  obtain ⟨g1, h⟩ := h
  refine V_icmp_ge (tgt := 51) dX12_worthOf_14 (by decide) g1 (show inI (σ 69 0) from (hR0.1 69 0 (by decide))) (fun q2 => ?_) (fun q2 => ?_)
  · have h := h.1 q2
    refine V_iload_n 2 rfl rfl dX12_worthOf_51 ?_
    exact V_iret rfl (fun _ q => by cases q) (vp_nar_int _) dX12_worthOf_52 h
  · have h := h.2 q2
    refine V_iload_n 2 rfl rfl dX12_worthOf_17 ?_
    refine V_aload_n 0 rfl rfl dX12_worthOf_18 ?_
    refine V_getR (f := 24) ci_X12 sh_69 rfl (by decide) (c1 := 84) rfl dX12_worthOf_19 lk_RX12_f52 ?_
    refine V_iconst dX12_worthOf_22 ?_
    refine V_iload_n 3 rfl rfl dX12_worthOf_23 ?_
    refine V_ishl dX12_worthOf_24 ?_
    obtain ⟨g3, h⟩ := h
    refine V_iald sh_84 (by decide) g3 dX12_worthOf_25 ?_
    refine V_iconst dX12_worthOf_26 ?_
    refine V_icmp_ne (tgt := 35) dX12_worthOf_27 (by decide) (show inI (σ 84 ((zshl 1 v3).toNat)) from (inI_sh hR0 sh_84 (by decide))) (by decide) (fun q4 => ?_) (fun q4 => ?_)
    · have h := h.1 q4
      refine V_aload_n 0 rfl rfl dX12_worthOf_35 ?_
      refine V_getR (f := 24) ci_X12 sh_69 rfl (by decide) (c1 := 84) rfl dX12_worthOf_36 lk_RX12_f52 ?_
      refine V_iconst dX12_worthOf_39 ?_
      refine V_iload_n 3 rfl rfl dX12_worthOf_40 ?_
      refine V_ishl dX12_worthOf_41 ?_
      obtain ⟨g5, h⟩ := h
      refine V_iald sh_84 (by decide) g5 dX12_worthOf_42 ?_
      exact h
    · have h := h.2 q4
      refine V_bipush (v := 50) (by decide) dX12_worthOf_30 ?_
      refine V_goto (tgt := 43) dX12_worthOf_32 (by decide) ?_
      exact h
set_option maxHeartbeats 2000000 in
set_option maxRecDepth 20000 in
theorem rX12_worthOf_43 {X : Cx} {v1 : Int} {v2 : Int} {v3 : Int} {s0 : Int} {s1 : Int} {σ : Sg} {Q : Int → Sg → Prop} (h : Rng σ → GX12_worthOf_9 X v1 (s1 + s0) (v3 + 1) σ Q) : GX12_worthOf_43 X v1 v2 v3 s0 s1 σ Q := by
  unfold GX12_worthOf_43
  refine V_rng (fun hR0 => ?_)
  have h := h hR0
  refine V_iadd dX12_worthOf_43 ?_
  refine V_istore_n (L' := [(2, .int (gI (s1 + s0))), (0, .ref (cxA X 69)), (1, .int (gI v1)), (3, .int (gI v3))]) rfl (by decide) rfl dX12_worthOf_44 ?_
  refine V_iinc (L' := [(3, .int (gI (v3 + 1))), (2, .int (gI (s1 + s0))), (0, .ref (cxA X 69)), (1, .int (gI v1))]) 3 rfl (by decide) rfl dX12_worthOf_45 ?_
  refine V_goto (tgt := 9) dX12_worthOf_48 (by decide) ?_
  exact V_sub [2, 3, 1, 0] rfl h
theorem eX12_worthOf {X : Cx} {v1 : Int} {σ : Sg} {Q : Int → Sg → Prop} (h : GX12_worthOf_0 X v1 σ Q) : KX12_worthOf X v1 σ Q := V_enter (by decide) (Nat.le_of_ble_eq_true rfl) rfl h
def GX12_worth_0 (X : Cx) (v1 : Int) (v2 : Int) (σ : Sg) (Q : Int → Sg → Prop) : Prop := VV X mX12_worth 0 [(0, .ref (cxA X 69)), (1, .int (gI v1)), (2, .int (gI v2))] [] σ Q
def GX12_worth_37 (X : Cx) (v1 : Int) (v2 : Int) (v3 : Int) (v4 : Int) (v5 : Int) (σ : Sg) (Q : Int → Sg → Prop) : Prop := VV X mX12_worth 37 [(0, .ref (cxA X 69)), (1, .int (gI v1)), (2, .int (gI v2)), (3, .int (gI v3)), (4, .int (gI v4)), (5, .int (gI v5))] [] σ Q
def GX12_worth_49 (X : Cx) (v1 : Int) (v2 : Int) (v3 : Int) (v4 : Int) (v5 : Int) (v6 : Int) (σ : Sg) (Q : Int → Sg → Prop) : Prop := VV X mX12_worth 49 [(0, .ref (cxA X 69)), (1, .int (gI v1)), (2, .int (gI v2)), (3, .int (gI v3)), (4, .int (gI v4)), (5, .int (gI v5)), (6, .int (gI v6))] [] σ Q
def GX12_worth_117 (X : Cx) (v1 : Int) (v2 : Int) (v3 : Int) (v4 : Int) (v5 : Int) (v6 : Int) (v7 : Int) (v8 : Int) (σ : Sg) (Q : Int → Sg → Prop) : Prop := VV X mX12_worth 117 [(0, .ref (cxA X 69)), (1, .int (gI v1)), (2, .int (gI v2)), (3, .int (gI v3)), (4, .int (gI v4)), (5, .int (gI v5)), (6, .int (gI v6)), (7, .int (gI v7)), (8, .int (gI v8))] [] σ Q
def GX12_worth_128 (X : Cx) (v1 : Int) (v2 : Int) (v3 : Int) (v4 : Int) (v5 : Int) (v6 : Int) (v7 : Int) (v8 : Int) (s0 : Int) (σ : Sg) (Q : Int → Sg → Prop) : Prop := VV X mX12_worth 128 [(0, .ref (cxA X 69)), (1, .int (gI v1)), (2, .int (gI v2)), (3, .int (gI v3)), (4, .int (gI v4)), (5, .int (gI v5)), (6, .int (gI v6)), (7, .int (gI v7)), (8, .int (gI v8))] [.int (gI s0)] σ Q
def GX12_worth_142 (X : Cx) (v1 : Int) (v2 : Int) (v3 : Int) (v4 : Int) (v5 : Int) (v6 : Int) (v7 : Int) (v8 : Int) (σ : Sg) (Q : Int → Sg → Prop) : Prop := VV X mX12_worth 142 [(0, .ref (cxA X 69)), (1, .int (gI v1)), (2, .int (gI v2)), (3, .int (gI v3)), (4, .int (gI v4)), (5, .int (gI v5)), (6, .int (gI v6)), (7, .int (gI v7)), (8, .int (gI v8))] [] σ Q
def GX12_worth_149 (X : Cx) (v1 : Int) (v2 : Int) (v3 : Int) (v4 : Int) (v5 : Int) (v6 : Int) (v7 : Int) (v8 : Int) (s0 : Int) (σ : Sg) (Q : Int → Sg → Prop) : Prop := VV X mX12_worth 149 [(0, .ref (cxA X 69)), (1, .int (gI v1)), (2, .int (gI v2)), (3, .int (gI v3)), (4, .int (gI v4)), (5, .int (gI v5)), (6, .int (gI v6)), (7, .int (gI v7)), (8, .int (gI v8))] [.int (gI s0)] σ Q
def GX12_worth_151 (X : Cx) (v1 : Int) (v2 : Int) (v3 : Int) (v4 : Int) (v5 : Int) (v6 : Int) (v7 : Int) (σ : Sg) (Q : Int → Sg → Prop) : Prop := VV X mX12_worth 151 [(0, .ref (cxA X 69)), (1, .int (gI v1)), (2, .int (gI v2)), (3, .int (gI v3)), (4, .int (gI v4)), (5, .int (gI v5)), (6, .int (gI v6)), (7, .int (gI v7))] [] σ Q
set_option maxHeartbeats 2000000 in
set_option maxRecDepth 20000 in
theorem rX12_worth_0 {X : Cx} {v1 : Int} {v2 : Int} {σ : Sg} {Q : Int → Sg → Prop} (h : Rng σ → KX12_areWords X v1 σ (fun r1 σ2 => Rng σ2 → (inI r1) ∧ ((r1 = 0 → Q ((-3)) σ2) ∧ (¬ r1 = 0 → KX12_in X v2 0 2 σ2 (fun r6 σ7 => Rng σ7 → (inI r6) ∧ ((¬ r6 = 0 → (inI v2) ∧ ((¬ v2 = 0 → GX12_worth_37 X v1 v2 ((-1)) ((-1)) 0 σ7 Q) ∧ (v2 = 0 → KX12_worthOf X v1 σ7 (fun r13 σ14 => Rng σ14 → Q r13 σ14)))) ∧ (r6 = 0 → Q ((-3)) σ7))))))) : GX12_worth_0 X v1 v2 σ Q := by
  unfold GX12_worth_0
  refine V_rng (fun hR0 => ?_)
  have h := h hR0
  refine V_iload_n 1 rfl rfl dX12_worth_0 ?_
  refine V_cS (M' := mX12_areWords) (As := [.int (gI v1)]) (fun r => [.int (gI r)]) ok_X12_areWords ok2_X12_areWords rfl rfl (Nat.le_of_ble_eq_true rfl) dX12_worth_1 lk_RX12_m249 (by decide) (fun _ => rfl) h (fun r1 σ2 h => ?_)
  refine V_rng (fun hR3 => ?_)
  have h := h hR3
  obtain ⟨g4, h⟩ := h
  refine V_if_eq (tgt := 16) dX12_worth_4 (by decide) g4 (fun q5 => ?_) (fun q5 => ?_)
  · have h := h.1 q5
    refine V_bipush (v := -3) (by decide) dX12_worth_16 ?_
    exact V_iret rfl (fun _ q => by cases q) (vp_nar_int _) dX12_worth_18 h
  · have h := h.2 q5
    refine V_iload_n 2 rfl rfl dX12_worth_7 ?_
    refine V_iconst dX12_worth_8 ?_
    refine V_iconst dX12_worth_9 ?_
    refine V_cS (M' := mX12_in) (As := [.int (gI v2), .int (gI 0), .int (gI 2)]) (fun r => [.int (gI r)]) ok_X12_in ok2_X12_in rfl rfl (Nat.le_of_ble_eq_true rfl) dX12_worth_10 lk_RX12_m102 (by decide) (fun _ => rfl) h (fun r6 σ7 h => ?_)
    refine V_rng (fun hR8 => ?_)
    have h := h hR8
    obtain ⟨g9, h⟩ := h
    refine V_if_ne (tgt := 19) dX12_worth_13 (by decide) g9 (fun q10 => ?_) (fun q10 => ?_)
    · have h := h.1 q10
      refine V_iload_n 2 rfl rfl dX12_worth_19 ?_
      obtain ⟨g11, h⟩ := h
      refine V_if_ne (tgt := 29) dX12_worth_20 (by decide) g11 (fun q12 => ?_) (fun q12 => ?_)
      · have h := h.1 q12
        refine V_iconst dX12_worth_29 ?_
        refine V_istore_n (L' := [(3, .int (gI ((-1)))), (0, .ref (cxA X 69)), (1, .int (gI v1)), (2, .int (gI v2))]) rfl (by decide) rfl dX12_worth_30 ?_
        refine V_iconst dX12_worth_31 ?_
        refine V_istore (L' := [(4, .int (gI ((-1)))), (3, .int (gI ((-1)))), (0, .ref (cxA X 69)), (1, .int (gI v1)), (2, .int (gI v2))]) (by decide) rfl dX12_worth_32 ?_
        refine V_iconst dX12_worth_34 ?_
        refine V_istore (L' := [(5, .int (gI 0)), (4, .int (gI ((-1)))), (3, .int (gI ((-1)))), (0, .ref (cxA X 69)), (1, .int (gI v1)), (2, .int (gI v2))]) (by decide) rfl dX12_worth_35 ?_
        exact V_sub [3, 4, 5, 2, 1, 0] rfl h
      · have h := h.2 q12
        refine V_aload_n 0 rfl rfl dX12_worth_23 ?_
        refine V_iload_n 1 rfl rfl dX12_worth_24 ?_
        refine V_cV (M' := mX12_worthOf) (As := [.int (gI v1)]) (fun r => [.int (gI r)]) ok_X12_worthOf ok2_X12_worthOf sh_69 rfl (by decide) rfl rfl (Nat.le_of_ble_eq_true rfl) dX12_worth_25 lk_RX12_m283 (by decide) (fun _ => rfl) h (fun r13 σ14 h => ?_)
        refine V_rng (fun hR15 => ?_)
        have h := h hR15
        exact V_iret rfl (fun _ q => by cases q) (vp_nar_int _) dX12_worth_28 h
    · have h := h.2 q10
      refine V_bipush (v := -3) (by decide) dX12_worth_16 ?_
      exact V_iret rfl (fun _ q => by cases q) (vp_nar_int _) dX12_worth_18 h
set_option maxHeartbeats 2000000 in
set_option maxRecDepth 20000 in
theorem rX12_worth_37 {X : Cx} {v1 : Int} {v2 : Int} {v3 : Int} {v4 : Int} {v5 : Int} {σ : Sg} {Q : Int → Sg → Prop} (h : Rng σ → (inI v5) ∧ (((σ 69 0) ≤ v5 → (inI v2) ∧ ((¬ v2 = 1 → Q v3 σ) ∧ (v2 = 1 → Q v4 σ))) ∧ (v5 < (σ 69 0) → GX12_worth_49 X v1 v2 v3 v4 v5 0 σ Q))) : GX12_worth_37 X v1 v2 v3 v4 v5 σ Q := by
  unfold GX12_worth_37
  refine V_rng (fun hR0 => ?_)
  have h := h hR0
  refine V_iload 5 rfl dX12_worth_37 ?_
  refine V_aload_n 0 rfl rfl dX12_worth_39 ?_
  refine V_getI (f := 0) ci_X12 sh_69 rfl (by decide) dX12_worth_40 lk_RX12_f98 ?_
  obtain ⟨g1, h⟩ := h
  refine V_icmp_ge (tgt := 163) dX12_worth_43 (by decide) g1 (show inI (σ 69 0) from (hR0.1 69 0 (by decide))) (fun q2 => ?_) (fun q2 => ?_)
  · have h := h.1 q2
    refine V_iload_n 2 rfl rfl dX12_worth_163 ?_
    refine V_iconst dX12_worth_164 ?_
    obtain ⟨g3, h⟩ := h
    refine V_icmp_ne (tgt := 173) dX12_worth_165 (by decide) g3 (by decide) (fun q4 => ?_) (fun q4 => ?_)
    · have h := h.1 q4
      refine V_iload_n 3 rfl rfl dX12_worth_173 ?_
      exact V_iret rfl (fun _ q => by cases q) (vp_nar_int _) dX12_worth_174 h
    · have h := h.2 q4
      refine V_iload 4 rfl dX12_worth_168 ?_
      refine V_goto (tgt := 174) dX12_worth_170 (by decide) ?_
      exact V_iret rfl (fun _ q => by cases q) (vp_nar_int _) dX12_worth_174 h
  · have h := h.2 q2
    refine V_iconst dX12_worth_46 ?_
    refine V_istore (L' := [(6, .int (gI 0)), (0, .ref (cxA X 69)), (1, .int (gI v1)), (2, .int (gI v2)), (3, .int (gI v3)), (4, .int (gI v4)), (5, .int (gI v5))]) (by decide) rfl dX12_worth_47 ?_
    exact V_sub [1, 2, 3, 4, 5, 6, 0] rfl h
set_option maxHeartbeats 2000000 in
set_option maxRecDepth 20000 in
theorem rX12_worth_49 {X : Cx} {v1 : Int} {v2 : Int} {v3 : Int} {v4 : Int} {v5 : Int} {v6 : Int} {σ : Sg} {Q : Int → Sg → Prop} (h : Rng σ → (inI v6) ∧ ((3 ≤ v6 → GX12_worth_37 X v1 v2 v3 v4 (v5 + 1) σ Q) ∧ (v6 < 3 → (0 ≤ v5 ∧ v5 < 8) ∧ ((¬ (zand (zshr (σ 73 v5.toNat) v6) 1) = 0 → GX12_worth_151 X v1 v2 v3 v4 v5 v6 (σ 73 v5.toNat) σ Q) ∧ ((zand (zshr (σ 73 v5.toNat) v6) 1) = 0 → (0 ≤ v5 ∧ v5 < 8) ∧ KX12_worthOf X v1 (up2 σ 73 v5.toNat (zor (σ 73 v5.toNat) (zshl 1 v6))) (fun r6 σ7 => Rng σ7 → (0 ≤ v5 ∧ v5 < 8) ∧ (inI (σ 73 v5.toNat)) ∧ (inI v4) ∧ ((v4 = ((-1)) → GX12_worth_117 X v1 v2 v3 v4 v5 v6 (σ 73 v5.toNat) r6 (up2 σ7 73 v5.toNat (σ 73 v5.toNat)) Q) ∧ (¬ v4 = ((-1)) → (inI r6) ∧ (inI v4) ∧ ((v4 ≤ r6 → GX12_worth_128 X v1 v2 v3 v4 v5 v6 (σ 73 v5.toNat) r6 v3 (up2 σ7 73 v5.toNat (σ 73 v5.toNat)) Q) ∧ (r6 < v4 → GX12_worth_117 X v1 v2 v3 v4 v5 v6 (σ 73 v5.toNat) r6 (up2 σ7 73 v5.toNat (σ 73 v5.toNat)) Q)))))))))) : GX12_worth_49 X v1 v2 v3 v4 v5 v6 σ Q := by
  unfold GX12_worth_49
  refine V_rng (fun hR0 => ?_)
  have h := h hR0
  refine V_iload 6 rfl dX12_worth_49 ?_
  refine V_iconst dX12_worth_51 ?_
  obtain ⟨g1, h⟩ := h
  refine V_icmp_ge (tgt := 157) dX12_worth_52 (by decide) g1 (by decide) (fun q2 => ?_) (fun q2 => ?_)
  · have h := h.1 q2
    refine V_iinc (L' := [(5, .int (gI (v5 + 1))), (0, .ref (cxA X 69)), (1, .int (gI v1)), (2, .int (gI v2)), (3, .int (gI v3)), (4, .int (gI v4)), (6, .int (gI v6))]) 5 rfl (by decide) rfl dX12_worth_157 ?_
    refine V_goto (tgt := 37) dX12_worth_160 (by decide) ?_
    exact V_sub [1, 2, 3, 4, 5, 0] rfl h
  · have h := h.2 q2
    refine V_aload_n 0 rfl rfl dX12_worth_55 ?_
    refine V_getR (f := 4) ci_X12 sh_69 rfl (by decide) (c1 := 73) rfl dX12_worth_56 lk_RX12_f19 ?_
    refine V_iload 5 rfl dX12_worth_59 ?_
    obtain ⟨g3, h⟩ := h
    refine V_iald sh_73 (by decide) g3 dX12_worth_61 ?_
    refine V_istore (L' := [(7, .int (gI (σ 73 v5.toNat))), (0, .ref (cxA X 69)), (1, .int (gI v1)), (2, .int (gI v2)), (3, .int (gI v3)), (4, .int (gI v4)), (5, .int (gI v5)), (6, .int (gI v6))]) (by decide) rfl dX12_worth_62 ?_
    refine V_iload 0 rfl dX12_worth_64 ?_
    refine V_iload 7 rfl dX12_worth_66 ?_
    refine V_ishr dX12_worth_68 ?_
    refine V_iconst dX12_worth_69 ?_
    refine V_iand dX12_worth_70 ?_
    refine V_if_ne (tgt := 151) dX12_worth_71 (by decide) (inI_z _) (fun q4 => ?_) (fun q4 => ?_)
    · have h := h.1 q4
      exact V_sub [1, 2, 3, 4, 5, 6, 7, 0] rfl h
    · have h := h.2 q4
      refine V_aload_n 1 rfl rfl dX12_worth_74 ?_
      refine V_getR (f := 4) ci_X12 sh_69 rfl (by decide) (c1 := 73) rfl dX12_worth_75 lk_RX12_f19 ?_
      refine V_iload 6 rfl dX12_worth_78 ?_
      refine V_iload 0 rfl dX12_worth_80 ?_
      refine V_iconst dX12_worth_82 ?_
      refine V_iload 7 rfl dX12_worth_83 ?_
      refine V_ishl dX12_worth_85 ?_
      refine V_ior dX12_worth_86 ?_
      obtain ⟨g5, h⟩ := h
      refine V_iast sh_73 (by decide) g5 (inI_z _) dX12_worth_87 ?_
      refine V_aload_n 1 rfl rfl dX12_worth_88 ?_
      refine V_iload_n 2 rfl rfl dX12_worth_89 ?_
      refine V_cV (M' := mX12_worthOf) (As := [.int (gI v1)]) (fun r => [.int (gI r)]) ok_X12_worthOf ok2_X12_worthOf sh_69 rfl (by decide) rfl rfl (Nat.le_of_ble_eq_true rfl) dX12_worth_90 lk_RX12_m283 (by decide) (fun _ => rfl) h (fun r6 σ7 h => ?_)
      refine V_rng (fun hR8 => ?_)
      have h := h hR8
      refine V_istore (L' := [(8, .int (gI r6)), (7, .int (gI (σ 73 v5.toNat))), (0, .ref (cxA X 69)), (1, .int (gI v1)), (2, .int (gI v2)), (3, .int (gI v3)), (4, .int (gI v4)), (5, .int (gI v5)), (6, .int (gI v6))]) (by decide) rfl dX12_worth_93 ?_
      refine V_aload_n 2 rfl rfl dX12_worth_95 ?_
      refine V_getR (f := 4) ci_X12 sh_69 rfl (by decide) (c1 := 73) rfl dX12_worth_96 lk_RX12_f19 ?_
      refine V_iload 7 rfl dX12_worth_99 ?_
      refine V_iload 1 rfl dX12_worth_101 ?_
      refine V_rng (fun hR9 => ?_)
      obtain ⟨g10, h⟩ := h
      obtain ⟨g11, h⟩ := h
      refine V_iast sh_73 (by decide) g10 g11 dX12_worth_103 ?_
      refine V_iload 6 rfl dX12_worth_104 ?_
      refine V_iconst dX12_worth_106 ?_
      obtain ⟨g12, h⟩ := h
      refine V_icmp_eq (tgt := 117) dX12_worth_107 (by decide) g12 (by decide) (fun q13 => ?_) (fun q13 => ?_)
      · have h := h.1 q13
        exact V_sub [2, 3, 4, 5, 6, 7, 8, 1, 0] rfl h
      · have h := h.2 q13
        refine V_iload 0 rfl dX12_worth_110 ?_
        refine V_iload 6 rfl dX12_worth_112 ?_
        obtain ⟨g14, h⟩ := h
        obtain ⟨g15, h⟩ := h
        refine V_icmp_ge (tgt := 127) dX12_worth_114 (by decide) g14 g15 (fun q16 => ?_) (fun q16 => ?_)
        · have h := h.1 q16
          refine V_iload_n 5 rfl rfl dX12_worth_127 ?_
          exact V_sub [2, 3, 4, 5, 6, 7, 8, 1, 0] rfl h
        · have h := h.2 q16
          exact V_sub [2, 3, 4, 5, 6, 7, 8, 1, 0] rfl h
set_option maxHeartbeats 2000000 in
set_option maxRecDepth 20000 in
theorem rX12_worth_117 {X : Cx} {v1 : Int} {v2 : Int} {v3 : Int} {v4 : Int} {v5 : Int} {v6 : Int} {v7 : Int} {v8 : Int} {σ : Sg} {Q : Int → Sg → Prop} (h : Rng σ → GX12_worth_128 X v1 v2 v3 v4 v5 v6 v7 v8 ((4 * v5) + v6) σ Q) : GX12_worth_117 X v1 v2 v3 v4 v5 v6 v7 v8 σ Q := by
  unfold GX12_worth_117
  refine V_rng (fun hR0 => ?_)
  have h := h hR0
  refine V_iconst dX12_worth_117 ?_
  refine V_iload 5 rfl dX12_worth_118 ?_
  refine V_imul dX12_worth_120 ?_
  refine V_iload 6 rfl dX12_worth_121 ?_
  refine V_iadd dX12_worth_123 ?_
  refine V_goto (tgt := 128) dX12_worth_124 (by decide) ?_
  exact h
set_option maxHeartbeats 2000000 in
set_option maxRecDepth 20000 in
theorem rX12_worth_128 {X : Cx} {v1 : Int} {v2 : Int} {v3 : Int} {v4 : Int} {v5 : Int} {v6 : Int} {v7 : Int} {v8 : Int} {s0 : Int} {σ : Sg} {Q : Int → Sg → Prop} (h : Rng σ → (inI v4) ∧ ((v4 = ((-1)) → GX12_worth_142 X v1 v2 s0 v4 v5 v6 v7 v8 σ Q) ∧ (¬ v4 = ((-1)) → (inI v8) ∧ (inI v4) ∧ ((v4 ≤ v8 → GX12_worth_149 X v1 v2 s0 v4 v5 v6 v7 v8 v4 σ Q) ∧ (v8 < v4 → GX12_worth_142 X v1 v2 s0 v4 v5 v6 v7 v8 σ Q))))) : GX12_worth_128 X v1 v2 v3 v4 v5 v6 v7 v8 s0 σ Q := by
  unfold GX12_worth_128
  refine V_rng (fun hR0 => ?_)
  have h := h hR0
  refine V_istore_n (L' := [(3, .int (gI s0)), (0, .ref (cxA X 69)), (1, .int (gI v1)), (2, .int (gI v2)), (4, .int (gI v4)), (5, .int (gI v5)), (6, .int (gI v6)), (7, .int (gI v7)), (8, .int (gI v8))]) rfl (by decide) rfl dX12_worth_128 ?_
  refine V_iload 4 rfl dX12_worth_129 ?_
  refine V_iconst dX12_worth_131 ?_
  obtain ⟨g1, h⟩ := h
  refine V_icmp_eq (tgt := 142) dX12_worth_132 (by decide) g1 (by decide) (fun q2 => ?_) (fun q2 => ?_)
  · have h := h.1 q2
    exact V_sub [1, 2, 3, 0, 4, 5, 6, 7, 8] rfl h
  · have h := h.2 q2
    refine V_iload 8 rfl dX12_worth_135 ?_
    refine V_iload 4 rfl dX12_worth_137 ?_
    obtain ⟨g3, h⟩ := h
    obtain ⟨g4, h⟩ := h
    refine V_icmp_ge (tgt := 147) dX12_worth_139 (by decide) g3 g4 (fun q5 => ?_) (fun q5 => ?_)
    · have h := h.1 q5
      refine V_iload 4 rfl dX12_worth_147 ?_
      exact V_sub [1, 2, 3, 0, 4, 5, 6, 7, 8] rfl h
    · have h := h.2 q5
      exact V_sub [1, 2, 3, 0, 4, 5, 6, 7, 8] rfl h
set_option maxHeartbeats 2000000 in
set_option maxRecDepth 20000 in
theorem rX12_worth_142 {X : Cx} {v1 : Int} {v2 : Int} {v3 : Int} {v4 : Int} {v5 : Int} {v6 : Int} {v7 : Int} {v8 : Int} {σ : Sg} {Q : Int → Sg → Prop} (h : Rng σ → GX12_worth_149 X v1 v2 v3 v4 v5 v6 v7 v8 v8 σ Q) : GX12_worth_142 X v1 v2 v3 v4 v5 v6 v7 v8 σ Q := by
  unfold GX12_worth_142
  refine V_rng (fun hR0 => ?_)
  have h := h hR0
  refine V_iload 8 rfl dX12_worth_142 ?_
  refine V_goto (tgt := 149) dX12_worth_144 (by decide) ?_
  exact h
set_option maxHeartbeats 2000000 in
set_option maxRecDepth 20000 in
theorem rX12_worth_149 {X : Cx} {v1 : Int} {v2 : Int} {v3 : Int} {v4 : Int} {v5 : Int} {v6 : Int} {v7 : Int} {v8 : Int} {s0 : Int} {σ : Sg} {Q : Int → Sg → Prop} (h : Rng σ → GX12_worth_151 X v1 v2 v3 s0 v5 v6 v7 σ Q) : GX12_worth_149 X v1 v2 v3 v4 v5 v6 v7 v8 s0 σ Q := by
  unfold GX12_worth_149
  refine V_rng (fun hR0 => ?_)
  have h := h hR0
  refine V_istore (L' := [(4, .int (gI s0)), (0, .ref (cxA X 69)), (1, .int (gI v1)), (2, .int (gI v2)), (3, .int (gI v3)), (5, .int (gI v5)), (6, .int (gI v6)), (7, .int (gI v7)), (8, .int (gI v8))]) (by decide) rfl dX12_worth_149 ?_
  exact V_sub [1, 2, 3, 4, 0, 5, 6, 7] rfl h
set_option maxHeartbeats 2000000 in
set_option maxRecDepth 20000 in
theorem rX12_worth_151 {X : Cx} {v1 : Int} {v2 : Int} {v3 : Int} {v4 : Int} {v5 : Int} {v6 : Int} {v7 : Int} {σ : Sg} {Q : Int → Sg → Prop} (h : Rng σ → GX12_worth_49 X v1 v2 v3 v4 v5 (v6 + 1) σ Q) : GX12_worth_151 X v1 v2 v3 v4 v5 v6 v7 σ Q := by
  unfold GX12_worth_151
  refine V_rng (fun hR0 => ?_)
  have h := h hR0
  refine V_iinc (L' := [(6, .int (gI (v6 + 1))), (0, .ref (cxA X 69)), (1, .int (gI v1)), (2, .int (gI v2)), (3, .int (gI v3)), (4, .int (gI v4)), (5, .int (gI v5)), (7, .int (gI v7))]) 6 rfl (by decide) rfl dX12_worth_151 ?_
  refine V_goto (tgt := 49) dX12_worth_154 (by decide) ?_
  exact V_sub [1, 2, 3, 4, 5, 6, 0] rfl h
theorem eX12_worth {X : Cx} {v1 : Int} {v2 : Int} {σ : Sg} {Q : Int → Sg → Prop} (h : GX12_worth_0 X v1 v2 σ Q) : KX12_worth X v1 v2 σ Q := V_enter (by decide) (Nat.le_of_ble_eq_true rfl) rfl h
def GX12_count_0 (X : Cx) (v1 : Int) (σ : Sg) (Q : Int → Sg → Prop) : Prop := VV X mX12_count 0 [(0, .ref (cxA X 69)), (1, .int (gI v1))] [] σ Q
set_option maxHeartbeats 2000000 in
set_option maxRecDepth 20000 in
theorem rX12_count_0 {X : Cx} {v1 : Int} {σ : Sg} {Q : Int → Sg → Prop} (h : Rng σ → (inI v1) ∧ ((v1 = 0 → Q (σ 69 0) σ) ∧ (v1 = 1 → KX12_tieMany X σ (fun r3 σ4 => Rng σ4 → Q r3 σ4)) ∧ (v1 = 2 → Q (σ 69 8) σ) ∧ (v1 = 3 → Q (σ 69 20) σ) ∧ (v1 = 4 → Q (σ 69 39) σ) ∧ (¬ v1 = 0 ∧ ¬ v1 = 1 ∧ ¬ v1 = 2 ∧ ¬ v1 = 3 ∧ ¬ v1 = 4 → Q ((-3)) σ))) : GX12_count_0 X v1 σ Q := by
  unfold GX12_count_0
  refine V_rng (fun hR0 => ?_)
  have h := h hR0
  refine V_iload_n 1 rfl rfl dX12_count_0 ?_
  obtain ⟨g1, h⟩ := h
  rcases (show v1 = 0 ∨ v1 = 1 ∨ v1 = 2 ∨ v1 = 3 ∨ v1 = 4 ∨ (¬ v1 = 0 ∧ ¬ v1 = 1 ∧ ¬ v1 = 2 ∧ ¬ v1 = 3 ∧ ¬ v1 = 4) by omega) with q2 | q2 | q2 | q2 | q2 | q2
  · have h := h.1 q2
    refine V_tsw (tgt := 36) (off := 35) dX12_count_1 g1 (by omega) (by omega) (by rw [q2]; rfl) (by decide) ?_
    refine V_aload_n 0 rfl rfl dX12_count_36 ?_
    refine V_getI (f := 0) ci_X12 sh_69 rfl (by decide) dX12_count_37 lk_RX12_f98 ?_
    exact V_iret rfl (fun _ q => by cases q) (vp_nar_int _) dX12_count_40 h
  · have h := h.2.1 q2
    refine V_tsw (tgt := 41) (off := 40) dX12_count_1 g1 (by omega) (by omega) (by rw [q2]; rfl) (by decide) ?_
    refine V_aload_n 0 rfl rfl dX12_count_41 ?_
    refine V_cV (M' := mX12_tieMany) (As := []) (fun r => [.int (gI r)]) ok_X12_tieMany ok2_X12_tieMany sh_69 rfl (by decide) rfl rfl (Nat.le_of_ble_eq_true rfl) dX12_count_42 lk_RX12_m114 (by decide) (fun _ => rfl) h (fun r3 σ4 h => ?_)
    refine V_rng (fun hR5 => ?_)
    have h := h hR5
    exact V_iret rfl (fun _ q => by cases q) (vp_nar_int _) dX12_count_45 h
  · have h := h.2.2.1 q2
    refine V_tsw (tgt := 46) (off := 45) dX12_count_1 g1 (by omega) (by omega) (by rw [q2]; rfl) (by decide) ?_
    refine V_aload_n 0 rfl rfl dX12_count_46 ?_
    refine V_getI (f := 8) ci_X12 sh_69 rfl (by decide) dX12_count_47 lk_RX12_f121 ?_
    exact V_iret rfl (fun _ q => by cases q) (vp_nar_int _) dX12_count_50 h
  · have h := h.2.2.2.1 q2
    refine V_tsw (tgt := 51) (off := 50) dX12_count_1 g1 (by omega) (by omega) (by rw [q2]; rfl) (by decide) ?_
    refine V_aload_n 0 rfl rfl dX12_count_51 ?_
    refine V_getI (f := 20) ci_X12 sh_69 rfl (by decide) dX12_count_52 lk_RX12_f228 ?_
    exact V_iret rfl (fun _ q => by cases q) (vp_nar_int _) dX12_count_55 h
  · have h := h.2.2.2.2.1 q2
    refine V_tsw (tgt := 56) (off := 55) dX12_count_1 g1 (by omega) (by omega) (by rw [q2]; rfl) (by decide) ?_
    refine V_aload_n 0 rfl rfl dX12_count_56 ?_
    refine V_getI (f := 39) ci_X12 sh_69 rfl (by decide) dX12_count_57 lk_RX12_f280 ?_
    exact V_iret rfl (fun _ q => by cases q) (vp_nar_int _) dX12_count_60 h
  · have h := h.2.2.2.2.2 q2
    refine V_tswD (tgt := 61) dX12_count_1 g1 (by omega) (by decide) ?_
    refine V_bipush (v := -3) (by decide) dX12_count_61 ?_
    exact V_iret rfl (fun _ q => by cases q) (vp_nar_int _) dX12_count_63 h
theorem eX12_count {X : Cx} {v1 : Int} {σ : Sg} {Q : Int → Sg → Prop} (h : GX12_count_0 X v1 σ Q) : KX12_count X v1 σ Q := V_enter (by decide) (Nat.le_of_ble_eq_true rfl) rfl h
