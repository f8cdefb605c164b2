/-! rows that a few methods need: long constants' neighbours, static rows' length, System.arraycopy of eight, the text of the words' names -/
theorem sh_69' : shp 69 = (10, 0) := by decide +kernel
theorem inI_sh {σ : Sg} {c kd n k : Nat} (hR : Rng σ) (hs : shp c = (kd, n)) (hk : kd ≠ 10) : inI (σ c k) := by
  refine hR.1 c k (fun q => hk ?_)
  have h := hs
  rw [q.1, sh_69'] at h
  exact (congrArg Prod.fst h).symm
theorem inI_jc (x y : Int) : inI (jcmp x y) := by
  unfold jcmp
  split
  · decide
  · split <;> decide
theorem V_ldc_w {X : Cx} {M : MI} {pc : Nat} {L : List (Nat × Value)} {st : List Value} {σ : Sg} {Q : Int → Sg → Prop} {idx : Nat} {v : Int32} {x : Int} (hd : decode M.2.1 pc = .ok (.ldc_w idx, 3)) (hc : Cond.constant M.1.cls idx v ∈ gdT) (hv : v = gI x) (k : VV X M (pc + 3) L (.int (gI x) :: st) σ Q) : VV X M pc L st σ Q := by
  intro p e s m args below meth c A cells slots Z C hz H locs ls Wd S hl
  subst hv
  exact lv_ldcw C.1 C.2.1 C.2.2.2.2.2.1 (C.2.2.2.2.2.2.1 _ hc) hd (k p e s m args below meth c A cells slots Z C hz H locs ls Wd S hl)
theorem V_alenT {X : Cx} {M : MI} {pc : Nat} {L : List (Nat × Value)} {st : List Value} {σ : Sg} {Q : Int → Sg → Prop} (t : Nat) (h6 : t < 6) (hd : decode M.2.1 pc = .ok (.arraylength, 1)) (k : VV X M (pc + 1) L (.int (gI (stv t).length) :: st) σ Q) : VV X M pc L (.ref (cxT X t) :: st) σ Q := by
  intro p e s m args below meth c A cells slots Z C hz H locs ls Wd S hl
  exact va_tlen C.1 C.2.1 ((C.2.2.2.2.2.2.2.2.1.1 t h6).2) S (Int32.ofInt_eq_ofNat).symm hd (k p e s m args below meth c A cells slots Z C hz H locs ls Wd S hl)
/-- the first eight places of cell a stand in cell b -/
def cpy8 (σ : Sg) (a b : Nat) : Sg := fun c k => if c = b ∧ k < 8 then σ a k else σ c k
theorem ok_arrc : Cond.native arraycopyName ∈ gdT ∧ Cond.static arraycopyName ∈ gdT ∧ Cond.initialized "java/lang/System" ∈ gdT := ⟨by decide +kernel, by decide +kernel, by decide +kernel⟩
theorem nfw_arrc : nativeFrameWords "java/lang/System" "arraycopy" 5 + 11 ≤ 50 := by decide +kernel
theorem V_copy8 {X : Cx} {M : MI} {pc : Nat} {L : List (Nat × Value)} {st : List Value} {σ : Sg} {Q : Int → Sg → Prop} {idx a b : Nat} (ha : shp a = (20, 8)) (hb : shp b = (20, 8)) (hd : decode M.2.1 pc = .ok (.invokestatic idx, 3)) (hl0 : Cond.methodLink M.1.cls idx arraycopyName ∈ gdT) (hfr : 1 ≤ M.2.2.2.2.frames) (hlo : (st.map fun v => v.category).sum + 50 ≤ M.2.2.2.2.locals) (k : VV X M (pc + 3) L st (cpy8 σ a b) Q) : VV X M pc L (.int (gI 8) :: .int (gI 0) :: .ref (cxA X b) :: .int (gI 0) :: .ref (cxA X a) :: st) σ Q := by
  intro p e0 s m args below meth c A cells slots Z C hz H locs ls Wd S hl
  obtain ⟨hP, hK, hDX, hR⟩ := Wd
  have hD := wl_D (σ := σ) hDX C.2.2.2.2.2.2.2.1
  have hts := C.2.2.2.2.2.2.1
  have la : a < 99 := shp_lt (by rw [ha]; show 20 < 99; decide)
  have lb : b < 99 := shp_lt (by rw [hb]; show 20 < 99; decide)
  refine va_copyi C.1 C.2.1 (C.2.2.1.trans hl.1.symm) C.2.2.2.2.2.1 (hts _ hl0) (hts _ ok_arrc.1) (hts _ ok_arrc.2.1) (hts _ ok_arrc.2.2) hK hP hD S a b 0 0 (f := fun j => gI (σ a j)) (g := fun j => gI (σ b j)) (by rw [wl_get la, cont_arr ha (by decide) (by decide)]) (by rw [wl_get lb, cont_arr hb (by decide) (by decide)]) rfl rfl rfl (by decide) (by decide) (by decide) (by decide) (by decide) (fun _ _ => rfl) hfr (Nat.le_trans (Nat.add_le_add_left nfw_arrc _) hlo) hd (fun H1 locs1 hP1 hD1 S1 => ?_)
  have e : (wl X σ).set b (cxA X b, .inl (cxY X (20 - 20), 8, .inl (va_cpy (fun j => gI (σ a j)) (fun j => gI (σ b j)) (gI 0).toNatClampNeg (gI 0).toNatClampNeg (gI 8).toNatClampNeg))) = wl X (cpy8 σ a b) := by
    rw [← wl_set lb (σ' := cpy8 σ a b) (fun c' k h => if_neg (fun q => h q.1)), cont_arr hb (by decide) (by decide)]
    have : (fun j => gI (cpy8 σ a b b j)) = va_cpy (fun j => gI (σ a j)) (fun j => gI (σ b j)) (gI 0).toNatClampNeg (gI 0).toNatClampNeg (gI 8).toNatClampNeg := by
      funext j
      have e0 : (gI 0).toNatClampNeg = 0 := by decide
      have e8 : (gI 8).toNatClampNeg = 8 := by decide
      rw [e0, e8]
      unfold cpy8 va_cpy
      by_cases q : j < 8
      · rw [if_pos ⟨rfl, q⟩, if_pos ⟨Nat.zero_le _, by omega⟩]
        show gI (σ a j) = gI (σ a (0 + (j - 0)))
        rw [Nat.zero_add, Nat.sub_zero]
      · rw [if_neg (fun z => q z.2), if_neg (fun z => q (by omega))]
    rw [this]
  have hP2 : va_P (cxD X) vwCl (wl X (cpy8 σ a b)) H1 := e ▸ hP1
  refine k p e0 s m args below meth c A cells slots Z C hz H1 locs1 ls ⟨hP2, hK, hDX, ⟨fun c' k' hn => ?_, ?_⟩⟩ S1 hl
  · unfold cpy8
    split
    · exact inI_sh hR ha (by decide)
    · exact hR.1 c' k' hn
  · unfold cpy8
    rw [if_neg (fun q => by omega)]
    exact hR.2
def namC (n : Nat) : Int := (namL.getD n 0).toInt
theorem V_ldcS {X : Cx} {M : MI} {pc : Nat} {L : List (Nat × Value)} {st : List Value} {σ : Sg} {Q : Int → Sg → Prop} (hM : M.1.cls = "GreenDoor$Words") (hd : decode M.2.1 pc = .ok (.ldc 33, 2)) (k : VV X M (pc + 2) L (.ref (cxT X 6) :: st) σ Q) : VV X M pc L st σ Q := by
  intro p e s m args below meth c A cells slots Z C hz H locs ls Wd S hl
  obtain ⟨tx, htx⟩ := C.2.2.2.2.2.2.2.2.1.2.2.1
  have hown := C.2.2.2.2.2.1
  rw [hM] at hown
  exact va_ldcS C.1 C.2.1 hown htx hd (k p e s m args below meth c A cells slots Z C hz H locs ls Wd S hl)
