/-! calls, in the form that the printed rows use; the shapes of the cells -/
theorem CC.mono {X : Cx} {M : MI} {av : List Value} {σ : Sg} {Q Q' : Int → Sg → Prop} (h : CC X M av σ Q) (hq : ∀ r σ', Q r σ' → Q' r σ') : CC X M av σ Q' := by
  intro p e ha hc hk s m args below hf happ hP hK
  obtain ⟨n, o, h1, h2, h3, ⟨⟨r, σ', e1, e2, e3⟩, h5⟩, h6⟩ := h p e ha hc hk s m args below hf happ hP hK
  exact ⟨n, o, h1, h2, h3, ⟨⟨r, σ', e1, hq r σ' e2, e3⟩, h5⟩, h6⟩
theorem V_cV {X : Cx} {M : MI} {pc : Nat} {L : List (Nat × Value)} {st st0 : List Value} {σ : Sg} {Q T : Int → Sg → Prop} {M' : MI} {idx n : Nat} {c0 ci n0 N : Nat} {U : u_T} {As : List Value} (rs : Int → List Value) (hok : okB M' n) (hi : Cond.instanceMethod M'.1 ∈ gdT ∧ Cond.selects M'.1.cls M'.1 M'.1 ∈ gdT) (hs : shp c0 = (ci, n0)) (hc : vwCl[ci]? = some (M'.1.cls, U, N)) (hci : ci < 20) (hn : As.length = n) (hst : st0 = As.reverse ++ .ref (cxA X c0) :: st) (hsum : (st.map fun v => v.category).sum ≤ 8) (hd : decode M.2.1 pc = .ok (.invokevirtual idx, 3)) (hl0 : Cond.methodLink M.1.cls idx M'.1 ∈ gdT)
    (hR : M'.2.2.2.2.frames + 1 ≤ M.2.2.2.2.frames ∧ 8 + (M'.2.2.1 + 11) + M'.2.2.2.2.locals ≤ M.2.2.2.2.locals) (hrs : ∀ r, (retv X M'.2.2.2.1 r).toList ++ st = rs r) (h : CC X M' (.ref (cxA X c0) :: As) σ T) (k : ∀ r σ', T r σ' → VV X M (pc + 3) L (rs r) σ' Q) : VV X M pc L st0 σ Q :=
  V_callV hok hi hs hc hci hn hst hsum hd hl0 hR (h.mono fun r σ' q => by rw [hrs]; exact k r σ' q)
theorem V_cS {X : Cx} {M : MI} {pc : Nat} {L : List (Nat × Value)} {st st0 : List Value} {σ : Sg} {Q T : Int → Sg → Prop} {M' : MI} {idx n : Nat} {As : List Value} (rs : Int → List Value) (hok : okB M' n) (hi : Cond.static M'.1 ∈ gdT) (hn : As.length = n) (hst : st0 = As.reverse ++ st) (hsum : (st.map fun v => v.category).sum ≤ 8) (hd : decode M.2.1 pc = .ok (.invokestatic idx, 3)) (hl0 : Cond.methodLink M.1.cls idx M'.1 ∈ gdT)
    (hR : M'.2.2.2.2.frames + 1 ≤ M.2.2.2.2.frames ∧ 8 + (M'.2.2.1 + 11) + M'.2.2.2.2.locals ≤ M.2.2.2.2.locals) (hrs : ∀ r, (retv X M'.2.2.2.1 r).toList ++ st = rs r) (h : CC X M' As σ T) (k : ∀ r σ', T r σ' → VV X M (pc + 3) L (rs r) σ' Q) : VV X M pc L st0 σ Q :=
  V_callS hok hi hn hst hsum hd hl0 hR (h.mono fun r σ' q => by rw [hrs]; exact k r σ' q)
theorem V_cN {X : Cx} {M : MI} {pc : Nat} {L : List (Nat × Value)} {st st0 : List Value} {σ : Sg} {Q T : Int → Sg → Prop} {M' : MI} {idx n : Nat} {host : String} {As : List Value} (rs : Int → List Value) (hok : okB M' n) (hi : Cond.static M'.1 ∈ gdT) (hn : As.length = n) (hst : st0 = As.reverse ++ st) (hsum : (st.map fun v => v.category).sum ≤ 8) (hd : decode M.2.1 pc = .ok (.invokestatic idx, 3)) (hl0 : Cond.methodLinkNest M.1.cls idx M'.1 host ∈ lw_tbl)
    (hR : M'.2.2.2.2.frames + 1 ≤ M.2.2.2.2.frames ∧ 8 + (M'.2.2.1 + 11) + M'.2.2.2.2.locals ≤ M.2.2.2.2.locals) (hrs : ∀ r, (retv X M'.2.2.2.1 r).toList ++ st = rs r) (h : CC X M' As σ T) (k : ∀ r σ', T r σ' → VV X M (pc + 3) L (rs r) σ' Q) : VV X M pc L st0 σ Q :=
  V_callSN hok hi hn hst hsum hd hl0 hR (h.mono fun r σ' q => by rw [hrs]; exact k r σ' q)
def isSay (c : Nat) : Prop := shp c = (3, 0) ∧ shp (c + 1) = (20, 24) ∧ shp (c + 2) = (20, 24)
def isWay (c : Nat) : Prop := shp c = (8, 0) ∧ shp (c + 1) = (20, 256) ∧ shp (c + 2) = (20, 256) ∧ shp (c + 3) = (20, 256) ∧ shp (c + 4) = (20, 256) ∧ shp (c + 5) = (20, 256) ∧ shp (c + 6) = (20, 256)
theorem isSay_14 : isSay 14 := by unfold isSay; decide +kernel
theorem isSay_k : ∀ n, n < 8 → isSay (18 + 3 * n) := by unfold isSay; decide +kernel
theorem isWay_42 : isWay 42 := by unfold isWay; decide +kernel
theorem isWay_50 : isWay 50 := by unfold isWay; decide +kernel
theorem sh_row : ∀ n, n < 8 → shp (3 + n) = (20, 8) := by decide +kernel
theorem inI_z (x : Int32) : inI x.toInt := inI_to x
theorem inI_stv (t n : Nat) (h : t < 6) : inI ((stv t).getD n 0) := by
  rw [List.getD_eq_getElem?_getD]
  cases hq : (stv t)[n]? with
  | none => decide
  | some v =>
    have hm := List.mem_of_getElem? hq
    have key : ∀ t, t < 6 → ∀ v ∈ stv t, inI v := by decide +kernel
    exact key t h v hm
theorem sh_0 : shp 0 = (9, 0) := by decide +kernel
theorem sh_1 : shp 1 = (4, 0) := by decide +kernel
theorem sh_2 : shp 2 = (23, 8) := by decide +kernel
theorem sh_3 : shp 3 = (20, 8) := by decide +kernel
theorem sh_4 : shp 4 = (20, 8) := by decide +kernel
theorem sh_5 : shp 5 = (20, 8) := by decide +kernel
theorem sh_6 : shp 6 = (20, 8) := by decide +kernel
theorem sh_7 : shp 7 = (20, 8) := by decide +kernel
theorem sh_8 : shp 8 = (20, 8) := by decide +kernel
theorem sh_9 : shp 9 = (20, 8) := by decide +kernel
theorem sh_10 : shp 10 = (20, 8) := by decide +kernel
theorem sh_11 : shp 11 = (20, 15) := by decide +kernel
theorem sh_12 : shp 12 = (6, 0) := by decide +kernel
theorem sh_13 : shp 13 = (22, 160) := by decide +kernel
theorem sh_14 : shp 14 = (3, 0) := by decide +kernel
theorem sh_15 : shp 15 = (20, 24) := by decide +kernel
theorem sh_16 : shp 16 = (20, 24) := by decide +kernel
theorem sh_17 : shp 17 = (24, 8) := by decide +kernel
theorem sh_18 : shp 18 = (3, 0) := by decide +kernel
theorem sh_19 : shp 19 = (20, 24) := by decide +kernel
theorem sh_20 : shp 20 = (20, 24) := by decide +kernel
theorem sh_21 : shp 21 = (3, 0) := by decide +kernel
theorem sh_22 : shp 22 = (20, 24) := by decide +kernel
theorem sh_23 : shp 23 = (20, 24) := by decide +kernel
theorem sh_24 : shp 24 = (3, 0) := by decide +kernel
theorem sh_25 : shp 25 = (20, 24) := by decide +kernel
theorem sh_26 : shp 26 = (20, 24) := by decide +kernel
theorem sh_27 : shp 27 = (3, 0) := by decide +kernel
theorem sh_28 : shp 28 = (20, 24) := by decide +kernel
theorem sh_29 : shp 29 = (20, 24) := by decide +kernel
theorem sh_30 : shp 30 = (3, 0) := by decide +kernel
theorem sh_31 : shp 31 = (20, 24) := by decide +kernel
theorem sh_32 : shp 32 = (20, 24) := by decide +kernel
theorem sh_33 : shp 33 = (3, 0) := by decide +kernel
theorem sh_34 : shp 34 = (20, 24) := by decide +kernel
theorem sh_35 : shp 35 = (20, 24) := by decide +kernel
theorem sh_36 : shp 36 = (3, 0) := by decide +kernel
theorem sh_37 : shp 37 = (20, 24) := by decide +kernel
theorem sh_38 : shp 38 = (20, 24) := by decide +kernel
theorem sh_39 : shp 39 = (3, 0) := by decide +kernel
theorem sh_40 : shp 40 = (20, 24) := by decide +kernel
theorem sh_41 : shp 41 = (20, 24) := by decide +kernel
theorem sh_42 : shp 42 = (8, 0) := by decide +kernel
theorem sh_43 : shp 43 = (20, 256) := by decide +kernel
theorem sh_44 : shp 44 = (20, 256) := by decide +kernel
theorem sh_45 : shp 45 = (20, 256) := by decide +kernel
theorem sh_46 : shp 46 = (20, 256) := by decide +kernel
theorem sh_47 : shp 47 = (20, 256) := by decide +kernel
theorem sh_48 : shp 48 = (20, 256) := by decide +kernel
theorem sh_49 : shp 49 = (0, 0) := by decide +kernel
theorem sh_50 : shp 50 = (8, 0) := by decide +kernel
theorem sh_51 : shp 51 = (20, 256) := by decide +kernel
theorem sh_52 : shp 52 = (20, 256) := by decide +kernel
theorem sh_53 : shp 53 = (20, 256) := by decide +kernel
theorem sh_54 : shp 54 = (20, 256) := by decide +kernel
theorem sh_55 : shp 55 = (20, 256) := by decide +kernel
theorem sh_56 : shp 56 = (20, 256) := by decide +kernel
theorem sh_57 : shp 57 = (7, 0) := by decide +kernel
theorem sh_58 : shp 58 = (20, 8) := by decide +kernel
theorem sh_59 : shp 59 = (20, 8) := by decide +kernel
theorem sh_60 : shp 60 = (20, 8) := by decide +kernel
theorem sh_61 : shp 61 = (1, 0) := by decide +kernel
theorem sh_62 : shp 62 = (20, 8) := by decide +kernel
theorem sh_63 : shp 63 = (20, 8) := by decide +kernel
theorem sh_64 : shp 64 = (20, 8) := by decide +kernel
theorem sh_65 : shp 65 = (2, 0) := by decide +kernel
theorem sh_66 : shp 66 = (20, 256) := by decide +kernel
theorem sh_67 : shp 67 = (5, 0) := by decide +kernel
theorem sh_68 : shp 68 = (20, 12) := by decide +kernel
theorem sh_69 : shp 69 = (10, 0) := by decide +kernel
theorem sh_70 : shp 70 = (20, 8) := by decide +kernel
theorem sh_71 : shp 71 = (20, 8) := by decide +kernel
theorem sh_72 : shp 72 = (20, 8) := by decide +kernel
theorem sh_73 : shp 73 = (20, 8) := by decide +kernel
theorem sh_74 : shp 74 = (20, 8) := by decide +kernel
theorem sh_75 : shp 75 = (20, 8) := by decide +kernel
theorem sh_76 : shp 76 = (20, 15) := by decide +kernel
theorem sh_77 : shp 77 = (20, 160) := by decide +kernel
theorem sh_78 : shp 78 = (20, 24) := by decide +kernel
theorem sh_79 : shp 79 = (20, 24) := by decide +kernel
theorem sh_80 : shp 80 = (20, 26) := by decide +kernel
theorem sh_81 : shp 81 = (20, 8) := by decide +kernel
theorem sh_82 : shp 82 = (20, 192) := by decide +kernel
theorem sh_83 : shp 83 = (20, 192) := by decide +kernel
theorem sh_84 : shp 84 = (20, 256) := by decide +kernel
theorem sh_85 : shp 85 = (20, 256) := by decide +kernel
theorem sh_86 : shp 86 = (20, 256) := by decide +kernel
theorem sh_87 : shp 87 = (20, 256) := by decide +kernel
theorem sh_88 : shp 88 = (20, 256) := by decide +kernel
theorem sh_89 : shp 89 = (20, 256) := by decide +kernel
theorem sh_90 : shp 90 = (21, 256) := by decide +kernel
theorem sh_91 : shp 91 = (20, 8) := by decide +kernel
theorem sh_92 : shp 92 = (20, 8) := by decide +kernel
theorem sh_93 : shp 93 = (20, 8) := by decide +kernel
theorem sh_94 : shp 94 = (20, 8) := by decide +kernel
theorem sh_95 : shp 95 = (20, 8) := by decide +kernel
theorem sh_96 : shp 96 = (20, 8) := by decide +kernel
theorem sh_97 : shp 97 = (20, 256) := by decide +kernel
theorem sh_98 : shp 98 = (20, 12) := by decide +kernel
theorem ci_X0 : CI 0 RX0 TX0 5 tyX0 := ⟨rfl, by decide, by decide +kernel, tyX0_ok, nmX0⟩
theorem ci_X1 : CI 1 RX1 TX1 4 tyX1 := ⟨rfl, by decide, by decide +kernel, tyX1_ok, nmX1⟩
theorem ci_X2 : CI 2 RX2 TX2 3 tyX2 := ⟨rfl, by decide, by decide +kernel, tyX2_ok, nmX2⟩
theorem ci_X4 : CI 3 RX4 TX4 3 tyX4 := ⟨rfl, by decide, by decide +kernel, tyX4_ok, nmX4⟩
theorem ci_X5 : CI 4 RX5 TX5 3 tyX5 := ⟨rfl, by decide, by decide +kernel, tyX5_ok, nmX5⟩
theorem ci_X6 : CI 5 RX6 TX6 2 tyX6 := ⟨rfl, by decide, by decide +kernel, tyX6_ok, nmX6⟩
theorem ci_X7 : CI 6 RX7 TX7 5 tyX7 := ⟨rfl, by decide, by decide +kernel, tyX7_ok, nmX7⟩
theorem ci_X8 : CI 7 RX8 TX8 3 tyX8 := ⟨rfl, by decide, by decide +kernel, tyX8_ok, nmX8⟩
theorem ci_X9 : CI 8 RX9 TX9 12 tyX9 := ⟨rfl, by decide, by decide +kernel, tyX9_ok, nmX9⟩
theorem ci_X11 : CI 9 RX11 TX11 12 tyX11 := ⟨rfl, by decide, by decide +kernel, tyX11_ok, nmX11⟩
theorem ci_X12 : CI 10 RX12 TX12 41 tyX12 := ⟨rfl, by decide, by decide +kernel, tyX12_ok, nmX12⟩
