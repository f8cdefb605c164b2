/-! the words' names: String.charAt of the constant, walked -/
abbrev mKe : MI := (yJ3_checkIndex_8e157, cJ3_checkIndex_8e157, 3, (some .int), { frames := 0, cells := 0, slots := 0, locals := 0 })
abbrev mKd : MI := (yJ0_checkIndex_df160, cJ0_checkIndex_df160, 2, none, { frames := 1, cells := 0, slots := 0, locals := 22 })
abbrev mKc : MI := (yJ1_charAt_3b067, cJ1_charAt_3b067, 2, (some .char), { frames := 2, cells := 0, slots := 0, locals := 43 })
abbrev mKb : MI := (yJ0_isLatin1_aae02, cJ0_isLatin1_aae02, 1, (some .boolean), { frames := 0, cells := 0, slots := 0, locals := 0 })
abbrev mKa : MI := (yJ0_charAt_5068e, cJ0_charAt_5068e, 2, (some .char), { frames := 3, cells := 0, slots := 0, locals := 64 })
theorem ok_Ke : okB mKe 3 := ⟨gm_2 186 rfl rfl, gm_1 16 rfl rfl, ⟨by decide +kernel, by decide +kernel, by decide +kernel⟩, rfl, rfl⟩
theorem ok_Kd : okB mKd 2 := ⟨gm_2 181 rfl rfl, gm_1 14 rfl rfl, ⟨by decide +kernel, by decide +kernel, by decide +kernel⟩, rfl, rfl⟩
theorem ok_Kc : okB mKc 2 := ⟨gm_2 178 rfl rfl, gm_1 15 rfl rfl, ⟨by decide +kernel, by decide +kernel, by decide +kernel⟩, rfl, rfl⟩
theorem ok_Kb : okB mKb 0 := ⟨gm_2 173 rfl rfl, gm_1 14 rfl rfl, ⟨by decide +kernel, by decide +kernel, by decide +kernel⟩, rfl, rfl⟩
theorem ok_Ka : okB mKa 1 := ⟨gm_2 169 rfl rfl, gm_1 14 rfl rfl, ⟨by decide +kernel, by decide +kernel, by decide +kernel⟩, rfl, rfl⟩
theorem k_checkIndex {X : Cx} {σ : Sg} {Q : Int → Sg → Prop} {i n : Int} {v : Value} (hv : v = .null ∨ ∃ t, v = .ref t) (hi : inI i) (hn : inI n) (h : 0 ≤ i ∧ i < n) (k : Q i σ) : CC X mKe [.int (gI i), .int (gI n), v] σ Q := by
  have walk : ∀ L : List (Nat × Value), L[0]? = some (0, .int (gI i)) → L[1]? = some (1, .int (gI n)) → VV X mKe 0 L [] σ Q := fun L h0 h1 => by
    refine V_iload_n 0 rfl h0 dJ3_checkIndex_8e157_0 ?_
    refine V_if_lt (tgt := 9) dJ3_checkIndex_8e157_1 (by decide) hi (fun q => by omega) (fun _ => ?_)
    refine V_iload_n 0 rfl h0 dJ3_checkIndex_8e157_4 ?_
    refine V_iload_n 1 rfl h1 dJ3_checkIndex_8e157_5 ?_
    refine V_icmp_lt (tgt := 16) dJ3_checkIndex_8e157_6 (by decide) hi hn (fun _ => ?_) (fun q => by omega)
    refine V_iload_n 0 rfl h0 dJ3_checkIndex_8e157_16 ?_
    exact V_iret rfl (fun _ q => by cases q) rfl dJ3_checkIndex_8e157_17 k
  rcases hv with rfl | ⟨t, rfl⟩
  · exact V_enter (by decide) (Nat.le_of_ble_eq_true rfl) rfl (walk _ rfl rfl)
  · exact V_enter (by decide) (Nat.le_of_ble_eq_true rfl) rfl (walk _ rfl rfl)
theorem k_checkIndexV {X : Cx} {σ : Sg} {Q : Int → Sg → Prop} {i n : Int} (hi : inI i) (hn : inI n) (h : 0 ≤ i ∧ i < n) (k : Q 0 σ) : CC X mKd [.int (gI i), .int (gI n)] σ Q := by
  refine V_enter (by decide) (Nat.le_of_ble_eq_true rfl) rfl ?_
  refine V_iload_n 0 rfl rfl dJ0_checkIndex_df160_0 ?_
  refine V_iload_n 1 rfl rfl dJ0_checkIndex_df160_1 ?_
  have rest : ∀ v : Value, (v = .null ∨ ∃ t, v = .ref t) → VV X mKd 5 [(0, .int (gI i)), (1, .int (gI n))] [v, .int (gI n), .int (gI i)] σ Q := fun v hv => by
    refine V_cS (M' := mKe) (As := [.int (gI i), .int (gI n), v]) (st := []) (fun r => [.int (gI r)]) ok_Ke (gm_2 185 rfl rfl) rfl rfl (by decide) dJ0_checkIndex_df160_5 (gm_2 184 rfl rfl) ⟨Nat.le_of_ble_eq_true rfl, Nat.le_of_ble_eq_true rfl⟩ (fun _ => rfl) (k_checkIndex (Q := fun r σ' => r = i ∧ σ' = σ) hv hi hn h ⟨rfl, rfl⟩) (fun r σ' q => ?_)
    obtain ⟨rfl, rfl⟩ := q
    refine V_pop rfl dJ0_checkIndex_df160_8 ?_
    exact V_vret rfl dJ0_checkIndex_df160_9 k
  intro p e s m args below meth c A cells slots Z C hz H locs ls Wd S hl
  rcases C.2.2.2.2.2.2.2.2.1.2.2.2.2.2.1 with hZ | ⟨t, hZ⟩
  · exact va_gets (ref := "jdk/internal/util/Preconditions") C.1 C.2.1 hZ S C.2.2.2.2.2.1 (C.2.2.2.2.2.2.1 _ (gm_2 182 rfl rfl)) (fun _ h9 => h9) dJ0_checkIndex_df160_2 (rest .null (Or.inl rfl) p e s m args below meth c A cells slots Z C hz H locs ls Wd S hl)
  · exact va_gets (ref := "jdk/internal/util/Preconditions") C.1 C.2.1 hZ S C.2.2.2.2.2.1 (C.2.2.2.2.2.2.1 _ (gm_2 182 rfl rfl)) (fun _ h9 => h9) dJ0_checkIndex_df160_2 (rest (.ref t) (Or.inr ⟨t, rfl⟩) p e s m args below meth c A cells slots Z C hz H locs ls Wd S hl)
theorem namC_ok : ∀ n : Nat, n < 120 → zand (namC n) 255 = namC n ∧ (0 ≤ namC n ∧ namC n < 256) ∧ narrow .char (.int (gI (namC n))) = .int (gI (namC n)) := by
  have h1 : ∀ n : Nat, n < 120 → zand (namC n) 255 = namC n ∧ (0 ≤ namC n ∧ namC n < 256) := by decide +kernel
  have h2 : ∀ n : Nat, n < 120 → (gI (namC n)).toUInt32.toUInt16.toUInt32.toInt32 = gI (namC n) := by decide +kernel
  exact fun n hn => ⟨(h1 n hn).1, (h1 n hn).2, congrArg Value.int (h2 n hn)⟩
theorem k_charAtL {X : Cx} {σ : Sg} {Q : Int → Sg → Prop} {i : Int} (h : 0 ≤ i ∧ i < 120) (k : Q (namC i.toNat) σ) : CC X mKc [.ref (cxT X 7), .int (gI i)] σ Q := by
  have nc := namC_ok i.toNat (by omega)
  refine V_enter (by decide) (Nat.le_of_ble_eq_true rfl) rfl ?_
  refine V_iload_n 1 rfl rfl dJ1_charAt_3b067_0 ?_
  refine V_aload_n 0 rfl rfl dJ1_charAt_3b067_1 ?_
  have rest : VV X mKc 3 [(0, .ref (cxT X 7)), (1, .int (gI i))] [.int (gI 120), .int (gI i)] σ Q := by
    refine V_cS (M' := mKd) (As := [.int (gI i), .int (gI 120)]) (st := []) (fun _ => []) ok_Kd (gm_2 180 rfl rfl) rfl rfl (by decide) dJ1_charAt_3b067_3 (gm_2 179 rfl rfl) ⟨Nat.le_of_ble_eq_true rfl, Nat.le_of_ble_eq_true rfl⟩ (fun _ => rfl) (k_checkIndexV (Q := fun r σ' => σ' = σ) (by omega) (by decide) h rfl) (fun r σ' q => ?_)
    subst q
    refine V_aload_n 0 rfl rfl dJ1_charAt_3b067_6 ?_
    refine V_iload_n 1 rfl rfl dJ1_charAt_3b067_7 ?_
    have rest2 : VV X mKc 9 [(0, .ref (cxT X 7)), (1, .int (gI i))] [.int (gI (namC i.toNat))] σ' Q := by
      refine V_sipush (v := 255) (by decide) dJ1_charAt_3b067_9 ?_
      refine V_iand dJ1_charAt_3b067_12 ?_
      rw [nc.1]
      refine V_i2c nc.2.1 dJ1_charAt_3b067_13 ?_
      exact V_iret rfl (fun _ q => by cases q) nc.2.2 dJ1_charAt_3b067_14 k
    intro p e s m args below meth c A cells slots Z C hz H locs ls Wd S hl
    obtain ⟨h1, h2⟩ := gI_in (n := 120) (by decide) h.1 (by omega)
    have hT := (C.2.2.2.2.2.2.2.2.1.2.2.2.1.1 0 (by decide)).2.2.2
    refine va_tb (v := .int (gI (namC i.toNat))) C.1 C.2.1 hT S h1 ?_ dJ1_charAt_3b067_8 (rest2 p e s m args below meth c A cells slots Z C hz H locs ls Wd S hl)
    show Value.int (namL.getD (gI i).toNatClampNeg 0) = .int (gI (namC i.toNat))
    rw [h2]
    unfold namC
    rw [gI_of]
  intro p e s m args below meth c A cells slots Z C hz H locs ls Wd S hl
  have hT := (C.2.2.2.2.2.2.2.2.1.2.2.2.1.1 0 (by decide)).2.2.2
  exact va_tlen C.1 C.2.1 hT S (show Int32.ofNat 120 = gI 120 by decide) dJ1_charAt_3b067_2 (rest p e s m args below meth c A cells slots Z C hz H locs ls Wd S hl)
theorem k_isLatin1 {X : Cx} {σ : Sg} {Q : Int → Sg → Prop} (k : Q 1 σ) : CC X mKb [.ref (cxT X 6)] σ Q := by
  refine V_enter (by decide) (Nat.le_of_ble_eq_true rfl) rfl ?_
  have end' : VV X mKb 10 [(0, .ref (cxT X 6))] [.int (gI 0)] σ Q := by
    refine V_if_ne (tgt := 17) dJ0_isLatin1_aae02_10 (by decide) (by decide) (fun q => absurd rfl q) (fun _ => ?_)
    refine V_iconst dJ0_isLatin1_aae02_13 ?_
    refine V_goto (tgt := 18) dJ0_isLatin1_aae02_14 (by decide) ?_
    exact V_iret rfl (fun _ q => by cases q) (by decide) dJ0_isLatin1_aae02_18 k
  have mid : VV X mKb 3 [(0, .ref (cxT X 6))] [.int (gI 1)] σ Q := by
    refine V_if_eq (tgt := 17) dJ0_isLatin1_aae02_3 (by decide) (by decide) (fun q => absurd q (by decide)) (fun _ => ?_)
    refine V_aload_n 0 rfl rfl dJ0_isLatin1_aae02_6 ?_
    intro p e s m args below meth c A cells slots Z C hz H locs ls Wd S hl
    have hO := (C.2.2.2.2.2.2.2.2.1.2.2.2.1.1 0 (by decide)).2.1
    have e0 : (Value.int 0) = .int (gI 0) := congrArg Value.int gI_0.symm
    rw [e0] at hO
    exact vk_getf (ref := "java/lang/String") C.1 C.2.1 hO S C.2.2.2.2.2.1 (C.2.2.2.2.2.2.1 _ (gm_5 213 rfl rfl)) (fun _ h9 => h9) dJ0_isLatin1_aae02_7 (end' p e s m args below meth c A cells slots Z C hz H locs ls Wd S hl)
  intro p e s m args below meth c A cells slots Z C hz H locs ls Wd S hl
  have hZ := C.2.2.2.2.2.2.2.2.1.2.2.2.2.1
  have e1 : (Value.int 1) = .int (gI 1) := congrArg Value.int (by decide)
  rw [e1] at hZ
  exact va_gets (ref := "java/lang/String") C.1 C.2.1 hZ S C.2.2.2.2.2.1 (C.2.2.2.2.2.2.1 _ (gm_2 174 rfl rfl)) (fun _ h9 => h9) dJ0_isLatin1_aae02_0 (mid p e s m args below meth c A cells slots Z C hz H locs ls Wd S hl)
/-- a call of the constant's own method -/
theorem V_callT {X : Cx} {M : MI} {pc : Nat} {L : List (Nat × Value)} {st st0 : List Value} {σ : Sg} {Q T : Int → Sg → Prop} {M' : MI} {idx n : Nat} {As : List Value} (rs : Int → List Value) (hok : okB M' n) (hcls : M'.1.cls = "java/lang/String") (hi : Cond.instanceMethod M'.1 ∈ gdT ∧ Cond.selects M'.1.cls M'.1 M'.1 ∈ gdT) (hn : As.length = n) (hst : st0 = As.reverse ++ .ref (cxT X 6) :: st) (hsum : (st.map fun v => v.category).sum ≤ 8) (hd : decode M.2.1 pc = .ok (.invokevirtual idx, 3)) (hl0 : Cond.methodLink M.1.cls idx M'.1 ∈ gdT) (hR : M'.2.2.2.2.frames + 1 ≤ M.2.2.2.2.frames ∧ 8 + (M'.2.2.1 + 11) + M'.2.2.2.2.locals ≤ M.2.2.2.2.locals) (hrs : ∀ r, (retv X M'.2.2.2.1 r).toList ++ st = rs r) (h : CC X M' (.ref (cxT X 6) :: As) σ T) (k : ∀ r σ', T r σ' → VV X M (pc + 3) L (rs r) σ' Q) : VV X M pc L st0 σ Q := by
  have h' := h.mono (Q' := fun r σ' => VV X M (pc + 3) L ((retv X M'.2.2.2.1 r).toList ++ st) σ' Q) fun r σ' q => by rw [hrs]; exact k r σ' q
  intro p e s m args below meth c A cells slots Z C hz H locs ls Wd S hl
  subst hst
  refine V_back C hz S hl (va_runV ⟨C.1, C.2.1, C.2.2.1, C.2.2.2.2.2.1, C.2.2.2.2.2.2.1⟩ h' ⟨(callB_of n C.2.2.2.2.2.2.1 hok.good rfl hok.2.2.2.1 hok.2.2.2.2 (C.2.2.2.2.2.2.1 _ hok.2.1) (C.2.2.2.2.2.2.1 _ hl0) hok.2.2.1 hR), C.2.2.2.2.2.2.1 _ hi.1, C.2.2.2.2.2.2.1 _ hi.2⟩ ⟨CC_blind, (by rw [hcls]; exact vk_recv (i := 0) C.2.2.2.2.2.2.2.2.1.2.2.2.1 (by decide) S), V_pre C Wd S⟩ rfl hn hl.1 rfl (lv_room hsum) hd (V_roomOK C))
theorem k_charAt {X : Cx} {σ : Sg} {Q : Int → Sg → Prop} {i : Int} (h : 0 ≤ i ∧ i < 120) (k : Q (namC i.toNat) σ) : CC X mKa [.ref (cxT X 6), .int (gI i)] σ Q := by
  have nc := namC_ok i.toNat (by omega)
  refine V_enter (by decide) (Nat.le_of_ble_eq_true rfl) rfl ?_
  refine V_aload_n 0 rfl rfl dJ0_charAt_5068e_0 ?_
  refine V_callT (M' := mKb) (As := []) (st := []) (fun r => [.int (gI r)]) ok_Kb rfl ⟨gm_2 171 rfl rfl, gm_2 172 rfl rfl⟩ rfl rfl (by decide) dJ0_charAt_5068e_1 (gm_2 170 rfl rfl) ⟨Nat.le_of_ble_eq_true rfl, Nat.le_of_ble_eq_true rfl⟩ (fun _ => rfl) (k_isLatin1 (Q := fun r σ' => r = 1 ∧ σ' = σ) ⟨rfl, rfl⟩) (fun r σ' q => ?_)
  obtain ⟨rfl, rfl⟩ := q
  refine V_if_eq (tgt := 16) dJ0_charAt_5068e_4 (by decide) (by decide) (fun q => absurd q (by decide)) (fun _ => ?_)
  refine V_aload_n 0 rfl rfl dJ0_charAt_5068e_7 ?_
  have rest : VV X mKa 11 [(0, .ref (cxT X 6)), (1, .int (gI i))] [.ref (cxT X 7)] σ' Q := by
    refine V_iload_n 1 rfl rfl dJ0_charAt_5068e_11 ?_
    refine V_cS (M' := mKc) (As := [.ref (cxT X 7), .int (gI i)]) (st := []) (fun r => [.int (gI r)]) ok_Kc (gm_2 177 rfl rfl) rfl rfl (by decide) dJ0_charAt_5068e_12 (gm_2 176 rfl rfl) ⟨Nat.le_of_ble_eq_true rfl, Nat.le_of_ble_eq_true rfl⟩ (fun _ => rfl) (k_charAtL (Q := fun r s2 => r = namC i.toNat ∧ s2 = σ') h ⟨rfl, rfl⟩) (fun r s2 q => ?_)
    obtain ⟨rfl, rfl⟩ := q
    exact V_iret rfl (fun _ q => by cases q) nc.2.2 dJ0_charAt_5068e_15 k
  intro p e s m args below meth c A cells slots Z C hz H locs ls Wd S hl
  have hO := (C.2.2.2.2.2.2.2.2.1.2.2.2.1.1 0 (by decide)).2.2.1
  exact vk_getf (ref := "java/lang/String") C.1 C.2.1 hO S C.2.2.2.2.2.1 (C.2.2.2.2.2.2.1 _ (gm_5 214 rfl rfl)) (fun _ h9 => h9) dJ0_charAt_5068e_8 (rest p e s m args below meth c A cells slots Z C hz H locs ls Wd S hl)
theorem V_charAt {X : Cx} {M : MI} {pc : Nat} {L : List (Nat × Value)} {st : List Value} {σ : Sg} {Q : Int → Sg → Prop} {idx : Nat} {i : Int} (hi : 0 ≤ i ∧ i < 120) (hd : decode M.2.1 pc = .ok (.invokevirtual idx, 3)) (hfr : M.1.cls = "GreenDoor$Words" ∧ idx = 35 ∧ 6 ≤ M.2.2.2.2.frames ∧ 160 ≤ M.2.2.2.2.locals ∧ (st.map fun v => v.category).sum ≤ 8) (k : VV X M (pc + 3) L (.int (gI (namC i.toNat)) :: st) σ Q) : VV X M pc L (.int (gI i) :: .ref (cxT X 6) :: st) σ Q := by
  obtain ⟨h1, rfl, h3, h4, h5⟩ := hfr
  refine V_callT (M' := mKa) (As := [.int (gI i)]) (st := st) (fun r => .int (gI r) :: st) ok_Ka rfl ⟨gm_2 167 rfl rfl, gm_2 168 rfl rfl⟩ rfl rfl h5 hd (by rw [h1]; exact gm_2 166 rfl rfl) ⟨Nat.le_trans (by decide) h3, Nat.le_trans (by decide) h4⟩ (fun _ => rfl) (k_charAt (Q := fun r σ' => r = namC i.toNat ∧ σ' = σ) hi ⟨rfl, rfl⟩) (fun r σ' q => ?_)
  obtain ⟨rfl, rfl⟩ := q
  exact k
