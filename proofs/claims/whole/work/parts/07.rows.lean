/-! ROWS of the layer: locals, memory, calls, ends -/
theorem V_istore_n {X : Cx} {M : MI} {pc : Nat} {L : List (Nat × Value)} {st : List Value} {σ : Sg} {Q : Int → Sg → Prop} {L' : List (Nat × Value)} {q : Fin 4} {i : Nat} {x : Int} (hi : (q : Nat) = i) (hn : i < M.2.2.1) (hL : (i, Value.int (gI x)) :: L.filter (fun q => !(q.1 == i) && !(q.1 + 1 == i && q.2.category == 2)) = L') (hd : decode M.2.1 pc = .ok (.istore_n q, 1)) (k : VV X M (pc + 1) L' st σ Q) : VV X M pc L (.int (gI x) :: st) σ Q := by
  intro p e s m args below meth c A cells slots Z C hz H locs ls Wd S hl
  exact lv_istore_n C.1 C.2.1 hd hi hl hn hL (fun ls hl => k p e s m args below meth c A cells slots Z C hz H locs ls Wd S hl)
theorem V_istore {X : Cx} {M : MI} {pc : Nat} {L : List (Nat × Value)} {st : List Value} {σ : Sg} {Q : Int → Sg → Prop} {L' : List (Nat × Value)} {i : Nat} {x : Int} (hn : i < M.2.2.1) (hL : (i, Value.int (gI x)) :: L.filter (fun q => !(q.1 == i) && !(q.1 + 1 == i && q.2.category == 2)) = L') (hd : decode M.2.1 pc = .ok (.istore i, 2)) (k : VV X M (pc + 2) L' st σ Q) : VV X M pc L (.int (gI x) :: st) σ Q := by
  intro p e s m args below meth c A cells slots Z C hz H locs ls Wd S hl
  exact lv_istore C.1 C.2.1 hd hl hn hL (fun ls hl => k p e s m args below meth c A cells slots Z C hz H locs ls Wd S hl)
theorem V_astore_n {X : Cx} {M : MI} {pc : Nat} {L : List (Nat × Value)} {st : List Value} {σ : Sg} {Q : Int → Sg → Prop} {L' : List (Nat × Value)} {q : Fin 4} {i : Nat} {x : Nat} (hi : (q : Nat) = i) (hn : i < M.2.2.1) (hL : (i, Value.ref x) :: L.filter (fun q => !(q.1 == i) && !(q.1 + 1 == i && q.2.category == 2)) = L') (hd : decode M.2.1 pc = .ok (.astore_n q, 1)) (k : VV X M (pc + 1) L' st σ Q) : VV X M pc L (.ref x :: st) σ Q := by
  intro p e s m args below meth c A cells slots Z C hz H locs ls Wd S hl
  exact lv_astore_n C.1 C.2.1 hd hi hl hn hL (fun ls hl => k p e s m args below meth c A cells slots Z C hz H locs ls Wd S hl)
theorem V_astore {X : Cx} {M : MI} {pc : Nat} {L : List (Nat × Value)} {st : List Value} {σ : Sg} {Q : Int → Sg → Prop} {L' : List (Nat × Value)} {i : Nat} {x : Nat} (hn : i < M.2.2.1) (hL : (i, Value.ref x) :: L.filter (fun q => !(q.1 == i) && !(q.1 + 1 == i && q.2.category == 2)) = L') (hd : decode M.2.1 pc = .ok (.astore i, 2)) (k : VV X M (pc + 2) L' st σ Q) : VV X M pc L (.ref x :: st) σ Q := by
  intro p e s m args below meth c A cells slots Z C hz H locs ls Wd S hl
  exact lv_astore C.1 C.2.1 hd hl hn hL (fun ls hl => k p e s m args below meth c A cells slots Z C hz H locs ls Wd S hl)
theorem V_lstore_n {X : Cx} {M : MI} {pc : Nat} {L : List (Nat × Value)} {st : List Value} {σ : Sg} {Q : Int → Sg → Prop} {L' : List (Nat × Value)} {q : Fin 4} {i : Nat} {x : Int} (hi : (q : Nat) = i) (hn : i + 1 < M.2.2.1) (hL : (i, Value.long (gJ x)) :: L.filter (fun q => !(q.1 == i) && (!(q.1 == i + 1) && !(q.1 + 1 == i && q.2.category == 2))) = L') (hd : decode M.2.1 pc = .ok (.lstore_n q, 1)) (k : VV X M (pc + 1) L' st σ Q) : VV X M pc L (.long (gJ x) :: st) σ Q := by
  intro p e s m args below meth c A cells slots Z C hz H locs ls Wd S hl
  exact lv_lstore_n C.1 C.2.1 hd hi hl hn hL (fun ls hl => k p e s m args below meth c A cells slots Z C hz H locs ls Wd S hl)
theorem V_iinc {X : Cx} {M : MI} {pc : Nat} {L : List (Nat × Value)} {st : List Value} {σ : Sg} {Q : Int → Sg → Prop} {L' : List (Nat × Value)} {i : Nat} {n x : Int} (j : Nat) (hj : L[j]? = some (i, .int (gI x))) (hn : i < M.2.2.1) (hL : (i, Value.int (gI (x + n))) :: L.filter (fun q => !(q.1 == i) && !(q.1 + 1 == i && q.2.category == 2)) = L') (hd : decode M.2.1 pc = .ok (.iinc i n, 3)) (k : VV X M (pc + 3) L' st σ Q) : VV X M pc L st σ Q := by
  intro p e s m args below meth c A cells slots Z C hz H locs ls Wd S hl
  exact lv_iinc C.1 C.2.1 hd hl hj (gI_add x n).symm hn hL (fun ls hl => k p e s m args below meth c A cells slots Z C hz H locs ls Wd S hl)
theorem V_tsw {X : Cx} {M : MI} {pc : Nat} {L : List (Nat × Value)} {st : List Value} {σ : Sg} {Q : Int → Sg → Prop} {dflt lo hi : Int} {offs : Array Int} {len : Nat} {x : Int} {off : Int} {tgt : Nat} (hd : decode M.2.1 pc = .ok (.tableswitch dflt lo hi offs, len)) (hx : inI x) (h1 : lo ≤ x) (h2 : x ≤ hi) (ho : offs[(x - lo).toNat]? = some off) (ht : (pc : Int) + off = (tgt : Int)) (k : VV X M tgt L st σ Q) : VV X M pc L (.int (gI x) :: st) σ Q := by
  intro p e s m args below meth c A cells slots Z C hz H locs ls Wd S hl
  exact lv_tableIn C.1 C.2.1 hd (by rw [gI_to hx]; omega) (by rw [gI_to hx]; omega) (by rw [gI_to hx]; exact ho) ht (k p e s m args below meth c A cells slots Z C hz H locs ls Wd S hl)
theorem V_tswD {X : Cx} {M : MI} {pc : Nat} {L : List (Nat × Value)} {st : List Value} {σ : Sg} {Q : Int → Sg → Prop} {dflt lo hi : Int} {offs : Array Int} {len : Nat} {x : Int} {tgt : Nat} (hd : decode M.2.1 pc = .ok (.tableswitch dflt lo hi offs, len)) (hx : inI x) (h : x < lo ∨ hi < x) (ht : (pc : Int) + dflt = (tgt : Int)) (k : VV X M tgt L st σ Q) : VV X M pc L (.int (gI x) :: st) σ Q := by
  intro p e s m args below meth c A cells slots Z C hz H locs ls Wd S hl
  exact lv_tableOut C.1 C.2.1 hd (by rw [gI_to hx]; exact h) ht (k p e s m args below meth c A cells slots Z C hz H locs ls Wd S hl)
theorem V_lsw {X : Cx} {M : MI} {pc : Nat} {L : List (Nat × Value)} {st : List Value} {σ : Sg} {Q : Int → Sg → Prop} {dflt : Int} {ps : Array (Int × Int)} {len : Nat} {x : Int} {off : Int} {tgt : Nat} (hd : decode M.2.1 pc = .ok (.lookupswitch dflt ps, len)) (hx : inI x) (hp : (ps.toList.zip (ps.toList.drop 1)).all (fun (a, next) => a.1 < next.1) = true) (ho : Op.lookupswitch.offset ps.toList dflt x = off) (ht : (pc : Int) + off = (tgt : Int)) (k : VV X M tgt L st σ Q) : VV X M pc L (.int (gI x) :: st) σ Q := by
  intro p e s m args below meth c A cells slots Z C hz H locs ls Wd S hl
  exact lv_lookup C.1 C.2.1 hd hp (by rw [gI_to hx]; exact ho) ht (k p e s m args below meth c A cells slots Z C hz H locs ls Wd S hl)
theorem V_ldc {X : Cx} {M : MI} {pc : Nat} {L : List (Nat × Value)} {st : List Value} {σ : Sg} {Q : Int → Sg → Prop} {idx : Nat} {v : Int32} {x : Int} (hd : decode M.2.1 pc = .ok (.ldc idx, 2)) (hc : Cond.constant M.1.cls idx v ∈ gdT) (hv : v = gI x) (k : VV X M (pc + 2) L (.int (gI x) :: st) σ Q) : VV X M pc L st σ Q := by
  intro p e s m args below meth c A cells slots Z C hz H locs ls Wd S hl
  subst hv
  exact lv_ldc C.1 C.2.1 C.2.2.2.2.2.1 (C.2.2.2.2.2.2.1 _ hc) hd (k p e s m args below meth c A cells slots Z C hz H locs ls Wd S hl)
theorem V_ldc2 {X : Cx} {M : MI} {pc : Nat} {L : List (Nat × Value)} {st : List Value} {σ : Sg} {Q : Int → Sg → Prop} {idx : Nat} {v : Int64} {x : Int} (hd : decode M.2.1 pc = .ok (.ldc2_w idx, 3)) (hc : Cond.constantLong M.1.cls idx v ∈ gdT) (hv : v = gJ x) (k : VV X M (pc + 3) L (.long (gJ x) :: st) σ Q) : VV X M pc L st σ Q := by
  intro p e s m args below meth c A cells slots Z C hz H locs ls Wd S hl
  subst hv
  exact lv_ldc2 C.1 C.2.1 C.2.2.2.2.2.1 (C.2.2.2.2.2.2.1 _ hc) hd (k p e s m args below meth c A cells slots Z C hz H locs ls Wd S hl)
/-- a kind of objects: its name, its fields' table and types -/
def CI (ci : Nat) (Cn : String) (T : u_T) (N : Nat) (ty : Nat → FieldType) : Prop := vwCl[ci]? = some (Cn, T, N) ∧ ci < 20 ∧ (∀ w ∈ u_ws Cn T N, w ∈ gdT) ∧ (∀ k, k < N → parseFieldDescriptor (T k).2.2.1 = some (ty k)) ∧ (∀ a, a < N → ∀ b, b < N → a ≠ b → (T a).2.1 ≠ (T b).2.1)
theorem V_getI {X : Cx} {M : MI} {pc : Nat} {L : List (Nat × Value)} {st : List Value} {σ : Sg} {Q : Int → Sg → Prop} {ci c0 n f idx N : Nat} {Cn : String} {T : u_T} {ty : Nat → FieldType} (hC : CI ci Cn T N ty) (hs : shp c0 = (ci, n)) (hf : (ofl ci)[f]? = some 0) (hk : f < N) (hd : decode M.2.1 pc = .ok (.getfield idx, 3)) (hl0 : Cond.fieldLink M.1.cls idx (T f).1 (T f).2.1 (T f).2.2.1 ∈ gdT) (k : VV X M (pc + 3) L (.int (gI (σ c0 f)) :: st) σ Q) : VV X M pc L (.ref (cxA X c0) :: st) σ Q := by
  intro p e s m args below meth c A cells slots Z C hz H locs ls Wd S hl
  exact va_get (ref := (T f).1) C.1 C.2.1 C.2.2.2.2.2.2.1 hC.2.2.1 C.2.2.2.2.2.1 Wd.2.1 Wd.1 c0 (by rw [wl_get (shp_lt (by rw [hs]; exact Nat.lt_trans hC.2.1 (by decide))), cont_obj hs hC.2.1]) hC.1 f hk (C.2.2.2.2.2.2.1 _ hl0) (fun _ h9 => h9) (by rw [fvs_get _ 0 f 0 hf, Nat.zero_add]; rfl) hd (k p e s m args below meth c A cells slots Z C hz H locs ls Wd S hl)
theorem V_getJ {X : Cx} {M : MI} {pc : Nat} {L : List (Nat × Value)} {st : List Value} {σ : Sg} {Q : Int → Sg → Prop} {ci c0 n f idx N : Nat} {Cn : String} {T : u_T} {ty : Nat → FieldType} (hC : CI ci Cn T N ty) (hs : shp c0 = (ci, n)) (hf : (ofl ci)[f]? = some 1) (hk : f < N) (hd : decode M.2.1 pc = .ok (.getfield idx, 3)) (hl0 : Cond.fieldLink M.1.cls idx (T f).1 (T f).2.1 (T f).2.2.1 ∈ gdT) (k : VV X M (pc + 3) L (.long (gJ (σ c0 f)) :: st) σ Q) : VV X M pc L (.ref (cxA X c0) :: st) σ Q := by
  intro p e s m args below meth c A cells slots Z C hz H locs ls Wd S hl
  exact va_get (ref := (T f).1) C.1 C.2.1 C.2.2.2.2.2.2.1 hC.2.2.1 C.2.2.2.2.2.1 Wd.2.1 Wd.1 c0 (by rw [wl_get (shp_lt (by rw [hs]; exact Nat.lt_trans hC.2.1 (by decide))), cont_obj hs hC.2.1]) hC.1 f hk (C.2.2.2.2.2.2.1 _ hl0) (fun _ h9 => h9) (by rw [fvs_get _ 0 f 1 hf, Nat.zero_add]; rfl) hd (k p e s m args below meth c A cells slots Z C hz H locs ls Wd S hl)
theorem V_getR {X : Cx} {M : MI} {pc : Nat} {L : List (Nat × Value)} {st : List Value} {σ : Sg} {Q : Int → Sg → Prop} {ci c0 n f idx N t c1 : Nat} {Cn : String} {T : u_T} {ty : Nat → FieldType} (hC : CI ci Cn T N ty) (hs : shp c0 = (ci, n)) (hf : (ofl ci)[f]? = some (t + 2)) (hk : f < N) (h1 : c0 + t = c1) (hd : decode M.2.1 pc = .ok (.getfield idx, 3)) (hl0 : Cond.fieldLink M.1.cls idx (T f).1 (T f).2.1 (T f).2.2.1 ∈ gdT) (k : VV X M (pc + 3) L (.ref (cxA X c1) :: st) σ Q) : VV X M pc L (.ref (cxA X c0) :: st) σ Q := by
  intro p e s m args below meth c A cells slots Z C hz H locs ls Wd S hl
  subst h1
  exact va_get (ref := (T f).1) C.1 C.2.1 C.2.2.2.2.2.2.1 hC.2.2.1 C.2.2.2.2.2.1 Wd.2.1 Wd.1 c0 (by rw [wl_get (shp_lt (by rw [hs]; exact Nat.lt_trans hC.2.1 (by decide))), cont_obj hs hC.2.1]) hC.1 f hk (C.2.2.2.2.2.2.1 _ hl0) (fun _ h9 => h9) (by rw [fvs_get _ 0 f (t + 2) hf]; rfl) hd (k p e s m args below meth c A cells slots Z C hz H locs ls Wd S hl)
theorem up2_off (σ : Sg) {c k : Nat} (x : Int) : ∀ c' k', c' ≠ c → up2 σ c k x c' k' = σ c' k' := fun _ _ h => up2_nc σ x h
theorem wl_obj {X : Cx} {σ : Sg} {c ci n f t : Nat} {x : Int} {v : Value} (hs : shp c = (ci, n)) (hci : ci < 20) (hf : (ofl ci)[f]? = some t) (hv : fval X (up2 σ c f x) c f t = v) : (wl X σ).set c (cxA X c, .inr (ci, (fvs X σ c 0 (ofl ci)).set f v)) = wl X (up2 σ c f x) := by
  rw [← wl_set (shp_lt (by rw [hs]; exact Nat.lt_trans hci (by decide))) (up2_off σ x), cont_obj hs hci]
  have := fvs_set (X := X) (σ := σ) (c := c) x (ofl ci) 0 f t hf
  rw [Nat.zero_add] at this
  rw [← this, hv]
theorem wl_arr {X : Cx} {σ : Sg} {c ci n i : Nat} {x : Int} (hs : shp c = (ci, n)) (h1 : 20 ≤ ci) (h2 : ci < 23) : (wl X σ).set c (cxA X c, .inl (cxY X (ci - 20), n, .inl (upd (fun j => gI (σ c j)) i (gI x)))) = wl X (up2 σ c i x) := by
  rw [← wl_set (shp_lt (by rw [hs]; exact Nat.lt_trans h2 (by decide))) (up2_off σ x), cont_arr hs h1 h2]
  have : (fun j => gI (up2 σ c i x c j)) = upd (fun j => gI (σ c j)) i (gI x) := by
    funext j
    unfold up2 upd
    by_cases e : j = i
    · rw [if_pos ⟨rfl, e⟩, if_pos e]
    · rw [if_neg (fun q => e q.2), if_neg e]
  rw [this]
theorem nar_Z {x : Int} (h : x = 0 ∨ x = 1) : narrow .boolean (.int (gI x)) = .int (gI x) ∧ fits .boolean (.int (gI x)) = true ∧ vp_nar .boolean (gI x) = gI x := by
  rcases h with rfl | rfl <;> decide +kernel
theorem V_putI {X : Cx} {M : MI} {pc : Nat} {L : List (Nat × Value)} {st : List Value} {σ : Sg} {Q : Int → Sg → Prop} {ci c0 n f idx N : Nat} {Cn : String} {T : u_T} {ty : Nat → FieldType} {x : Int} (hC : CI ci Cn T N ty) (hs : shp c0 = (ci, n)) (hf : (ofl ci)[f]? = some 0) (hk : f < N) (hty : ty f = .int) (hfin : (T f).2.2.2 = false) (hx : inI x) (hd : decode M.2.1 pc = .ok (.putfield idx, 3)) (hl0 : Cond.fieldLink M.1.cls idx (T f).1 (T f).2.1 (T f).2.2.1 ∈ gdT) (k : VV X M (pc + 3) L st (up2 σ c0 f x) Q) : VV X M pc L (.int (gI x) :: .ref (cxA X c0) :: st) σ Q := by
  intro p e s m args below meth c A cells slots Z C hz H locs ls Wd S hl
  obtain ⟨hP, hK, hDX, hR⟩ := Wd
  have hD := wl_D (σ := σ) hDX C.2.2.2.2.2.2.2.1
  refine va_put (ref := (T f).1) C.1 C.2.1 C.2.2.2.2.2.2.1 hC.2.2.1 ty hC.2.2.2.1 hC.2.2.2.2 C.2.2.2.2.2.1 hK hP hD S c0 (by rw [wl_get (shp_lt (by rw [hs]; exact Nat.lt_trans hC.2.1 (by decide))), cont_obj hs hC.2.1]) hC.1 f hk (C.2.2.2.2.2.2.1 _ hl0) (fun _ h9 => h9) hfin (by rw [hC.2.2.2.1 f hk, hty]) (vp_nar_int _) rfl (by rw [fvs_len]; exact (List.getElem?_eq_some_iff.mp hf).1) hd (fun H1 locs1 hP1 hD1 S1 => ?_)
  rw [wl_obj (x := x) hs hC.2.1 hf (by show Value.int (gI (up2 σ c0 f x c0 f)) = _; rw [up2_s])] at hP1
  exact k p e s m args below meth c A cells slots Z C hz H1 locs1 ls ⟨hP1, hK, hDX, hR.up hx⟩ S1 hl
theorem V_putZ {X : Cx} {M : MI} {pc : Nat} {L : List (Nat × Value)} {st : List Value} {σ : Sg} {Q : Int → Sg → Prop} {ci c0 n f idx N : Nat} {Cn : String} {T : u_T} {ty : Nat → FieldType} {x : Int} (hC : CI ci Cn T N ty) (hs : shp c0 = (ci, n)) (hf : (ofl ci)[f]? = some 0) (hk : f < N) (hty : ty f = .boolean) (hfin : (T f).2.2.2 = false) (hx : x = 0 ∨ x = 1) (hd : decode M.2.1 pc = .ok (.putfield idx, 3)) (hl0 : Cond.fieldLink M.1.cls idx (T f).1 (T f).2.1 (T f).2.2.1 ∈ gdT) (k : VV X M (pc + 3) L st (up2 σ c0 f x) Q) : VV X M pc L (.int (gI x) :: .ref (cxA X c0) :: st) σ Q := by
  intro p e s m args below meth c A cells slots Z C hz H locs ls Wd S hl
  obtain ⟨hP, hK, hDX, hR⟩ := Wd
  have hD := wl_D (σ := σ) hDX C.2.2.2.2.2.2.2.1
  refine va_put (ref := (T f).1) C.1 C.2.1 C.2.2.2.2.2.2.1 hC.2.2.1 ty hC.2.2.2.1 hC.2.2.2.2 C.2.2.2.2.2.1 hK hP hD S c0 (by rw [wl_get (shp_lt (by rw [hs]; exact Nat.lt_trans hC.2.1 (by decide))), cont_obj hs hC.2.1]) hC.1 f hk (C.2.2.2.2.2.2.1 _ hl0) (fun _ h9 => h9) hfin (by rw [hC.2.2.2.1 f hk, hty]) (nar_Z hx).1 (nar_Z hx).2.1 (by rw [fvs_len]; exact (List.getElem?_eq_some_iff.mp hf).1) hd (fun H1 locs1 hP1 hD1 S1 => ?_)
  rw [wl_obj (x := x) hs hC.2.1 hf (by show Value.int (gI (up2 σ c0 f x c0 f)) = _; rw [up2_s])] at hP1
  exact k p e s m args below meth c A cells slots Z C hz H1 locs1 ls ⟨hP1, hK, hDX, hR.up (by rcases hx with rfl | rfl <;> decide)⟩ S1 hl
theorem V_putJ {X : Cx} {M : MI} {pc : Nat} {L : List (Nat × Value)} {st : List Value} {σ : Sg} {Q : Int → Sg → Prop} {ci c0 n f idx N : Nat} {Cn : String} {T : u_T} {ty : Nat → FieldType} {x : Int} (hC : CI ci Cn T N ty) (hs : shp c0 = (ci, n)) (hf : (ofl ci)[f]? = some 1) (hk : f < N) (hty : ty f = .long) (hfin : (T f).2.2.2 = false) (hx : inJ x) (h69 : c0 = 69 ∧ f = 12) (hd : decode M.2.1 pc = .ok (.putfield idx, 3)) (hl0 : Cond.fieldLink M.1.cls idx (T f).1 (T f).2.1 (T f).2.2.1 ∈ gdT) (k : VV X M (pc + 3) L st (up2 σ c0 f x) Q) : VV X M pc L (.long (gJ x) :: .ref (cxA X c0) :: st) σ Q := by
  intro p e s m args below meth c A cells slots Z C hz H locs ls Wd S hl
  obtain ⟨hP, hK, hDX, hR⟩ := Wd
  have hD := wl_D (σ := σ) hDX C.2.2.2.2.2.2.2.1
  refine va_put (ref := (T f).1) C.1 C.2.1 C.2.2.2.2.2.2.1 hC.2.2.1 ty hC.2.2.2.1 hC.2.2.2.2 C.2.2.2.2.2.1 hK hP hD S c0 (by rw [wl_get (shp_lt (by rw [hs]; exact Nat.lt_trans hC.2.1 (by decide))), cont_obj hs hC.2.1]) hC.1 f hk (C.2.2.2.2.2.2.1 _ hl0) (fun _ h9 => h9) hfin (by rw [hC.2.2.2.1 f hk, hty]) rfl rfl (by rw [fvs_len]; exact (List.getElem?_eq_some_iff.mp hf).1) hd (fun H1 locs1 hP1 hD1 S1 => ?_)
  rw [wl_obj (x := x) hs hC.2.1 hf (by show Value.long (gJ (up2 σ c0 f x c0 f)) = _; rw [up2_s])] at hP1
  exact k p e s m args below meth c A cells slots Z C hz H1 locs1 ls ⟨hP1, hK, hDX, by rw [h69.1, h69.2]; exact hR.upJ hx⟩ S1 hl
theorem V_iald {X : Cx} {M : MI} {pc : Nat} {L : List (Nat × Value)} {st : List Value} {σ : Sg} {Q : Int → Sg → Prop} {c0 n : Nat} {i : Int} (hs : shp c0 = (20, n)) (hn : n < 2147483648) (hi : 0 ≤ i ∧ i < n) (hd : decode M.2.1 pc = .ok (.iaload, 1)) (k : VV X M (pc + 1) L (.int (gI (σ c0 i.toNat)) :: st) σ Q) : VV X M pc L (.int (gI i) :: .ref (cxA X c0) :: st) σ Q := by
  intro p e s m args below meth c A cells slots Z C hz H locs ls Wd S hl
  obtain ⟨h1, h2⟩ := gI_in hn hi.1 hi.2
  refine va_iald C.1 C.2.1 Wd.2.1 Wd.1 c0 0 (f := fun j => gI (σ c0 j)) (by rw [wl_get (shp_lt (by rw [hs]; show 20 < 99; decide)), cont_arr hs (by decide) (by decide)]) rfl h1 hd ?_
  rw [h2]
  exact k p e s m args below meth c A cells slots Z C hz H locs ls Wd S hl
theorem V_zald {X : Cx} {M : MI} {pc : Nat} {L : List (Nat × Value)} {st : List Value} {σ : Sg} {Q : Int → Sg → Prop} {c0 n : Nat} {i : Int} (hs : shp c0 = (21, n)) (hn : n < 2147483648) (hi : 0 ≤ i ∧ i < n) (hd : decode M.2.1 pc = .ok (.baload, 1)) (k : VV X M (pc + 1) L (.int (gI (σ c0 i.toNat)) :: st) σ Q) : VV X M pc L (.int (gI i) :: .ref (cxA X c0) :: st) σ Q := by
  intro p e s m args below meth c A cells slots Z C hz H locs ls Wd S hl
  obtain ⟨h1, h2⟩ := gI_in hn hi.1 hi.2
  refine va_zald C.1 C.2.1 Wd.2.1 Wd.1 c0 1 (f := fun j => gI (σ c0 j)) (by rw [wl_get (shp_lt (by rw [hs]; show 21 < 99; decide)), cont_arr hs (by decide) (by decide)]) rfl h1 hd ?_
  rw [h2]
  exact k p e s m args below meth c A cells slots Z C hz H locs ls Wd S hl
theorem V_cald {X : Cx} {M : MI} {pc : Nat} {L : List (Nat × Value)} {st : List Value} {σ : Sg} {Q : Int → Sg → Prop} {c0 n : Nat} {i : Int} (hs : shp c0 = (22, n)) (hn : n < 2147483648) (hi : 0 ≤ i ∧ i < n) (hd : decode M.2.1 pc = .ok (.caload, 1)) (k : VV X M (pc + 1) L (.int (gI (σ c0 i.toNat)) :: st) σ Q) : VV X M pc L (.int (gI i) :: .ref (cxA X c0) :: st) σ Q := by
  intro p e s m args below meth c A cells slots Z C hz H locs ls Wd S hl
  obtain ⟨h1, h2⟩ := gI_in hn hi.1 hi.2
  refine va_cald C.1 C.2.1 Wd.2.1 Wd.1 c0 2 (f := fun j => gI (σ c0 j)) (by rw [wl_get (shp_lt (by rw [hs]; show 22 < 99; decide)), cont_arr hs (by decide) (by decide)]) rfl h1 hd ?_
  rw [h2]
  exact k p e s m args below meth c A cells slots Z C hz H locs ls Wd S hl
theorem V_iast {X : Cx} {M : MI} {pc : Nat} {L : List (Nat × Value)} {st : List Value} {σ : Sg} {Q : Int → Sg → Prop} {c0 n : Nat} {i x : Int} (hs : shp c0 = (20, n)) (hn : n < 2147483648) (hi : 0 ≤ i ∧ i < n) (hx : inI x) (hd : decode M.2.1 pc = .ok (.iastore, 1)) (k : VV X M (pc + 1) L st (up2 σ c0 i.toNat x) Q) : VV X M pc L (.int (gI x) :: .int (gI i) :: .ref (cxA X c0) :: st) σ Q := by
  intro p e s m args below meth c A cells slots Z C hz H locs ls Wd S hl
  obtain ⟨h1, h2⟩ := gI_in hn hi.1 hi.2
  obtain ⟨hP, hK, hDX, hR⟩ := Wd
  have hD := wl_D (σ := σ) hDX C.2.2.2.2.2.2.2.1
  refine va_iast C.1 C.2.1 hK hP hD S c0 0 (f := fun j => gI (σ c0 j)) (by rw [wl_get (shp_lt (by rw [hs]; show 20 < 99; decide)), cont_arr hs (by decide) (by decide)]) rfl h1 hd (fun H1 locs1 hP1 hD1 S1 => ?_)
  rw [h2, show cxY X 0 = cxY X (20 - 20) from rfl, wl_arr hs (by decide) (by decide)] at hP1
  exact k p e s m args below meth c A cells slots Z C hz H1 locs1 ls ⟨hP1, hK, hDX, hR.up hx⟩ S1 hl
theorem V_zast {X : Cx} {M : MI} {pc : Nat} {L : List (Nat × Value)} {st : List Value} {σ : Sg} {Q : Int → Sg → Prop} {c0 n : Nat} {i x : Int} (hs : shp c0 = (21, n)) (hn : n < 2147483648) (hi : 0 ≤ i ∧ i < n) (hx : x = 0 ∨ x = 1) (hd : decode M.2.1 pc = .ok (.bastore, 1)) (k : VV X M (pc + 1) L st (up2 σ c0 i.toNat x) Q) : VV X M pc L (.int (gI x) :: .int (gI i) :: .ref (cxA X c0) :: st) σ Q := by
  intro p e s m args below meth c A cells slots Z C hz H locs ls Wd S hl
  obtain ⟨h1, h2⟩ := gI_in hn hi.1 hi.2
  obtain ⟨hP, hK, hDX, hR⟩ := Wd
  have hD := wl_D (σ := σ) hDX C.2.2.2.2.2.2.2.1
  refine va_zast C.1 C.2.1 hK hP hD S c0 1 (f := fun j => gI (σ c0 j)) (by rw [wl_get (shp_lt (by rw [hs]; show 21 < 99; decide)), cont_arr hs (by decide) (by decide)]) rfl h1 hd (fun H1 locs1 hP1 hD1 S1 => ?_)
  rw [(nar_Z hx).2.2] at hP1
  rw [h2, show cxY X 1 = cxY X (21 - 20) from rfl, wl_arr hs (by decide) (by decide)] at hP1
  exact k p e s m args below meth c A cells slots Z C hz H1 locs1 ls ⟨hP1, hK, hDX, hR.up (by rcases hx with rfl | rfl <;> decide)⟩ S1 hl
theorem nar_C0 : ∀ n : Nat, n < 256 → (gI n).toUInt32.toUInt16.toUInt32.toInt32 = gI n := by decide +kernel
theorem nar_C {x : Int} (h0 : 0 ≤ x) (h1 : x < 256) : (gI x).toUInt32.toUInt16.toUInt32.toInt32 = gI x := by
  have := nar_C0 x.toNat (by omega)
  rwa [Int.toNat_of_nonneg h0] at this
theorem V_cast {X : Cx} {M : MI} {pc : Nat} {L : List (Nat × Value)} {st : List Value} {σ : Sg} {Q : Int → Sg → Prop} {c0 n : Nat} {i x : Int} (hs : shp c0 = (22, n)) (hn : n < 2147483648) (hi : 0 ≤ i ∧ i < n) (hx : 0 ≤ x ∧ x < 256) (hd : decode M.2.1 pc = .ok (.castore, 1)) (k : VV X M (pc + 1) L st (up2 σ c0 i.toNat x) Q) : VV X M pc L (.int (gI x) :: .int (gI i) :: .ref (cxA X c0) :: st) σ Q := by
  intro p e s m args below meth c A cells slots Z C hz H locs ls Wd S hl
  obtain ⟨h1, h2⟩ := gI_in hn hi.1 hi.2
  obtain ⟨hP, hK, hDX, hR⟩ := Wd
  have hD := wl_D (σ := σ) hDX C.2.2.2.2.2.2.2.1
  refine va_cast C.1 C.2.1 hK hP hD S c0 2 (f := fun j => gI (σ c0 j)) (by rw [wl_get (shp_lt (by rw [hs]; show 22 < 99; decide)), cont_arr hs (by decide) (by decide)]) rfl h1 hd (fun H1 locs1 hP1 hD1 S1 => ?_)
  rw [(vp_nar_char (gI x)).trans (nar_C hx.1 hx.2)] at hP1
  rw [h2, show cxY X 2 = cxY X (22 - 20) from rfl, wl_arr hs (by decide) (by decide)] at hP1
  exact k p e s m args below meth c A cells slots Z C hz H1 locs1 ls ⟨hP1, hK, hDX, hR.up ⟨by omega, by omega⟩⟩ S1 hl
theorem V_aald {X : Cx} {M : MI} {pc : Nat} {L : List (Nat × Value)} {st : List Value} {σ : Sg} {Q : Int → Sg → Prop} {c0 n c1 : Nat} {i : Int} (hs : shp c0 = (23, n)) (hn : n < 2147483648) (hi : 0 ≤ i ∧ i < n) (h1 : c0 + 1 + 1 * i.toNat = c1) (hd : decode M.2.1 pc = .ok (.aaload, 1)) (k : VV X M (pc + 1) L (.ref (cxA X c1) :: st) σ Q) : VV X M pc L (.int (gI i) :: .ref (cxA X c0) :: st) σ Q := by
  intro p e s m args below meth c A cells slots Z C hz H locs ls Wd S hl
  subst h1
  obtain ⟨h1, h2⟩ := gI_in hn hi.1 hi.2
  have hlt : (gI i).toNatClampNeg < n := Nat.not_le.mp fun q => h1 (Or.inr q)
  have hc : (wl X σ)[c0]? = some (cxA X c0, .inl (cxY X 3, n, .inr (.inr (.inr (.inr (fun j => some (cxA X (c0 + 1 + 1 * j)))))))) := by rw [wl_get (shp_lt (by rw [hs]; show 23 < 99; decide)), cont_ref hs (by decide)]; rfl
  refine W.aald (v := .ref (cxA X (c0 + 1 + 1 * i.toNat))) (ty := .array .int) C.1 C.2.1 (Wd.1 c0 _ hc) ((Wd.2.1.2 3 _ rfl).1 n (fun j => va_rf (some (cxA X (c0 + 1 + 1 * j))))) rfl (fun q => by cases q) (by show ¬ (gI i < 0 ∨ (arrV _ _ _).slots.size ≤ _); rw [arrV_size]; exact h1) (by show (arrV _ _ _).slots[_]? = _; rw [arrV_read _ _ hlt, h2]; rfl) rfl rfl hd ?_
  exact k p e s m args below meth c A cells slots Z C hz H locs ls Wd S hl
theorem V_aaldS {X : Cx} {M : MI} {pc : Nat} {L : List (Nat × Value)} {st : List Value} {σ : Sg} {Q : Int → Sg → Prop} {c0 n c1 : Nat} {i : Int} (hs : shp c0 = (24, n)) (hn : n < 2147483648) (hi : 0 ≤ i ∧ i < n) (h1 : c0 + 1 + 3 * i.toNat = c1) (hd : decode M.2.1 pc = .ok (.aaload, 1)) (k : VV X M (pc + 1) L (.ref (cxA X c1) :: st) σ Q) : VV X M pc L (.int (gI i) :: .ref (cxA X c0) :: st) σ Q := by
  intro p e s m args below meth c A cells slots Z C hz H locs ls Wd S hl
  subst h1
  obtain ⟨h1, h2⟩ := gI_in hn hi.1 hi.2
  have hlt : (gI i).toNatClampNeg < n := Nat.not_le.mp fun q => h1 (Or.inr q)
  have hc : (wl X σ)[c0]? = some (cxA X c0, .inl (cxY X 4, n, .inr (.inr (.inr (.inr (fun j => some (cxA X (c0 + 1 + 3 * j)))))))) := by rw [wl_get (shp_lt (by rw [hs]; show 24 < 99; decide)), cont_ref hs (by decide)]; rfl
  refine W.aald (v := .ref (cxA X (c0 + 1 + 3 * i.toNat))) (ty := .object "GreenDoor$Saying") C.1 C.2.1 (Wd.1 c0 _ hc) ((Wd.2.1.2 4 _ rfl).1 n (fun j => va_rf (some (cxA X (c0 + 1 + 3 * j))))) rfl (fun q => by cases q) (by show ¬ (gI i < 0 ∨ (arrV _ _ _).slots.size ≤ _); rw [arrV_size]; exact h1) (by show (arrV _ _ _).slots[_]? = _; rw [arrV_read _ _ hlt, h2]; rfl) rfl rfl hd ?_
  exact k p e s m args below meth c A cells slots Z C hz H locs ls Wd S hl
theorem V_alen {X : Cx} {M : MI} {pc : Nat} {L : List (Nat × Value)} {st : List Value} {σ : Sg} {Q : Int → Sg → Prop} {c0 kd n : Nat} (hs : shp c0 = (kd, n)) (h1 : 20 ≤ kd) (h2 : kd < 23) (hd : decode M.2.1 pc = .ok (.arraylength, 1)) (k : VV X M (pc + 1) L (.int (gI n) :: st) σ Q) : VV X M pc L (.ref (cxA X c0) :: st) σ Q := by
  intro p e s m args below meth c A cells slots Z C hz H locs ls Wd S hl
  have ht : ∃ ty, (tys X)[kd - 20]? = some (cxY X (kd - 20), ty) := by
    rcases (show kd = 20 ∨ kd = 21 ∨ kd = 22 by omega) with rfl | rfl | rfl <;> exact ⟨_, rfl⟩
  obtain ⟨ty, ht⟩ := ht
  exact va_alen C.1 C.2.1 Wd.2.1 Wd.1 c0 (kd - 20) (by rw [wl_get (shp_lt (by rw [hs]; exact Nat.lt_trans h2 (by decide))), cont_arr hs h1 h2]) ht (v := gI n) (Int32.ofInt_eq_ofNat).symm hd (k p e s m args below meth c A cells slots Z C hz H locs ls Wd S hl)
theorem V_gets {X : Cx} {M : MI} {pc : Nat} {L : List (Nat × Value)} {st : List Value} {σ : Sg} {Q : Int → Sg → Prop} {idx : Nat} (t : Nat) (h6 : t < 6) (hd : decode M.2.1 pc = .ok (.getstatic idx, 3)) (hl0 : Cond.fieldLink M.1.cls idx (stn t).1 (stn t).2 "[B" ∈ gdT) (k : VV X M (pc + 3) L (.ref (cxT X t) :: st) σ Q) : VV X M pc L st σ Q := by
  intro p e s m args below meth c A cells slots Z C hz H locs ls Wd S hl
  exact va_gets (ref := (stn t).1) C.1 C.2.1 ((C.2.2.2.2.2.2.2.2.1.1 t h6).1) S C.2.2.2.2.2.1 (C.2.2.2.2.2.2.1 _ hl0) (fun _ h9 => h9) hd (k p e s m args below meth c A cells slots Z C hz H locs ls Wd S hl)
theorem V_baldT {X : Cx} {M : MI} {pc : Nat} {L : List (Nat × Value)} {st : List Value} {σ : Sg} {Q : Int → Sg → Prop} (t : Nat) {i : Int} (h6 : t < 6) (hi : 0 ≤ i ∧ i < (stv t).length) (hd : decode M.2.1 pc = .ok (.baload, 1)) (k : VV X M (pc + 1) L (.int (gI ((stv t).getD i.toNat 0)) :: st) σ Q) : VV X M pc L (.int (gI i) :: .ref (cxT X t) :: st) σ Q := by
  intro p e s m args below meth c A cells slots Z C hz H locs ls Wd S hl
  have hn : (stv t).length < 2147483648 := by
    rcases (show t = 0 ∨ t = 1 ∨ t = 2 ∨ t = 3 ∨ t = 4 ∨ t = 5 by omega) with rfl | rfl | rfl | rfl | rfl | rfl <;> decide
  obtain ⟨h1, h2⟩ := gI_in hn hi.1 hi.2
  exact va_tb C.1 C.2.1 ((C.2.2.2.2.2.2.2.2.1.1 t h6).2) S h1 (by rw [h2]) hd (k p e s m args below meth c A cells slots Z C hz H locs ls Wd S hl)
theorem V_sld {X : Cx} {M : MI} {pc : Nat} {L : List (Nat × Value)} {st : List Value} {σ : Sg} {Q : Int → Sg → Prop} {i : Int} (hn : cxN X < 2147483648) (hi : 0 ≤ i ∧ i < cxN X) (hd : decode M.2.1 pc = .ok (.iaload, 1)) (k : VV X M (pc + 1) L (.int (gI (cxS X i.toNat).toInt) :: st) σ Q) : VV X M pc L (.int (gI i) :: .ref (cxB X) :: st) σ Q := by
  intro p e s m args below meth c A cells slots Z C hz H locs ls Wd S hl
  obtain ⟨h1, h2⟩ := gI_in hn hi.1 hi.2
  refine va_sld C.1 C.2.1 C.2.2.2.2.2.2.2.2.1.2.1.1 C.2.2.2.2.2.2.2.2.1.2.1.2.2 C.2.2.2.2.2.2.2.2.1.2.1.2.1 S h1 hd ?_
  rw [h2, ← gI_of (cxS X i.toNat)]
  exact k p e s m args below meth c A cells slots Z C hz H locs ls Wd S hl
theorem V_slen {X : Cx} {M : MI} {pc : Nat} {L : List (Nat × Value)} {st : List Value} {σ : Sg} {Q : Int → Sg → Prop} (hd : decode M.2.1 pc = .ok (.arraylength, 1)) (k : VV X M (pc + 1) L (.int (gI (cxN X)) :: st) σ Q) : VV X M pc L (.ref (cxB X) :: st) σ Q := by
  intro p e s m args below meth c A cells slots Z C hz H locs ls Wd S hl
  refine va_slen C.1 C.2.1 C.2.2.2.2.2.2.2.2.1.2.1.1 C.2.2.2.2.2.2.2.2.1.2.1.2.2 C.2.2.2.2.2.2.2.2.1.2.1.2.1 S hd ?_
  rw [← Int32.ofInt_eq_ofNat]
  exact k p e s m args below meth c A cells slots Z C hz H locs ls Wd S hl
theorem V_mmax {X : Cx} {M : MI} {pc : Nat} {L : List (Nat × Value)} {st : List Value} {σ : Sg} {Q : Int → Sg → Prop} {idx : Nat} {x y : Int} (hx : inI x) (hy : inI y) (hm : Cond.static Lib.Math.max.name ∈ gdT ∧ Cond.initialized "java/lang/Math" ∈ gdT ∧ Cond.code Lib.Math.max.name Lib.Math.max.code 2 (some .int) ∈ gdT) (hd : decode M.2.1 pc = .ok (.invokestatic idx, 3)) (hl0 : Cond.methodLink M.1.cls idx Lib.Math.max.name ∈ gdT) (hfr : 1 ≤ M.2.2.2.2.frames) (hlo : (st.map fun v => v.category).sum + 13 ≤ M.2.2.2.2.locals) (k : VV X M (pc + 3) L (.int (gI (if x < y then y else x)) :: st) σ Q) : VV X M pc L (.int (gI y) :: .int (gI x) :: st) σ Q := by
  intro p e s m args below meth c A cells slots Z C hz H locs ls Wd S hl
  refine va_mmax C.1 C.2.1 (C.2.2.1.trans hl.1.symm) C.2.2.2.2.2.1 (C.2.2.2.2.2.2.1 _ hl0) (C.2.2.2.2.2.2.1 _ hm.1) (C.2.2.2.2.2.2.1 _ hm.2.1) (C.2.2.2.2.2.2.1 _ hm.2.2) hfr hlo C.2.2.2.2.2.2.2.2.2.1 C.2.2.2.2.2.2.2.2.2.2 hd ?_
  rw [show (if gI x < gI y then gI y else gI x) = gI (if x < y then y else x) from by
    by_cases q : x < y
    · rw [if_pos q, if_pos ((gI_lt hx hy).mpr q)]
    · rw [if_neg q, if_neg (fun z => q ((gI_lt hx hy).mp z))]]
  exact k p e s m args below meth c A cells slots Z C hz H locs ls Wd S hl
theorem V_mmin {X : Cx} {M : MI} {pc : Nat} {L : List (Nat × Value)} {st : List Value} {σ : Sg} {Q : Int → Sg → Prop} {idx : Nat} {x y : Int} (hx : inI x) (hy : inI y) (hm : Cond.static Lib.Math.min.name ∈ gdT ∧ Cond.initialized "java/lang/Math" ∈ gdT ∧ Cond.code Lib.Math.min.name Lib.Math.min.code 2 (some .int) ∈ gdT) (hd : decode M.2.1 pc = .ok (.invokestatic idx, 3)) (hl0 : Cond.methodLink M.1.cls idx Lib.Math.min.name ∈ gdT) (hfr : 1 ≤ M.2.2.2.2.frames) (hlo : (st.map fun v => v.category).sum + 13 ≤ M.2.2.2.2.locals) (k : VV X M (pc + 3) L (.int (gI (if y < x then y else x)) :: st) σ Q) : VV X M pc L (.int (gI y) :: .int (gI x) :: st) σ Q := by
  intro p e s m args below meth c A cells slots Z C hz H locs ls Wd S hl
  refine va_mmin C.1 C.2.1 (C.2.2.1.trans hl.1.symm) C.2.2.2.2.2.1 (C.2.2.2.2.2.2.1 _ hl0) (C.2.2.2.2.2.2.1 _ hm.1) (C.2.2.2.2.2.2.1 _ hm.2.1) (C.2.2.2.2.2.2.1 _ hm.2.2) hfr hlo C.2.2.2.2.2.2.2.2.2.1 C.2.2.2.2.2.2.2.2.2.2 hd ?_
  rw [show (if gI y < gI x then gI y else gI x) = gI (if y < x then y else x) from by
    by_cases q : y < x
    · rw [if_pos q, if_pos ((gI_lt hy hx).mpr q)]
    · rw [if_neg q, if_neg (fun z => q ((gI_lt hy hx).mp z))]]
  exact k p e s m args below meth c A cells slots Z C hz H locs ls Wd S hl
theorem V_iret {X : Cx} {M : MI} {pc : Nat} {L : List (Nat × Value)} {σ : Sg} {Q : Int → Sg → Prop} {x : Int} {ty : FieldType} (hr : M.2.2.2.1 = some ty) (ho : ∀ n, ty ≠ .object n) (hn : narrow ty (.int (gI x)) = .int (gI x)) (hd : decode M.2.1 pc = .ok (.ireturn, 1)) (k : Q x σ) : VV X M pc L (.int (gI x) :: []) σ Q := by
  intro p e s m args below meth c A cells slots Z C hz H locs ls Wd S hl
  have h1 : retOK M pc x := by
    unfold retOK; rw [hr]
    cases ty <;> first | exact absurd rfl (ho _) | exact ⟨hd, hn⟩
  have h2 := hz x σ H locs pc ls k Wd S h1
  have h3 : (retv X M.2.2.2.1 x).toList = [.int (gI x)] := by
    unfold retv; rw [hr]
    cases ty <;> first | exact absurd rfl (ho _) | rfl
  rw [h3] at h2
  exact h2
theorem V_vret {X : Cx} {M : MI} {pc : Nat} {L : List (Nat × Value)} {σ : Sg} {Q : Int → Sg → Prop} (hr : M.2.2.2.1 = none) (hd : decode M.2.1 pc = .ok (.return_, 1)) (k : Q 0 σ) : VV X M pc L [] σ Q := by
  intro p e s m args below meth c A cells slots Z C hz H locs ls Wd S hl
  have h1 : retOK M pc 0 := by unfold retOK; rw [hr]; exact hd
  have h2 := hz 0 σ H locs pc ls k Wd S h1
  have h3 : (retv X M.2.2.2.1 0).toList = [] := by unfold retv; rw [hr]; rfl
  rw [h3] at h2
  exact h2
theorem V_aret {X : Cx} {M : MI} {pc : Nat} {L : List (Nat × Value)} {σ : Sg} {Q : Int → Sg → Prop} {c0 : Nat} {n : String} (hr : M.2.2.2.1 = some (.object n)) (hd : decode M.2.1 pc = .ok (.areturn, 1)) (k : Q c0 σ) : VV X M pc L (.ref (cxA X c0) :: []) σ Q := by
  intro p e s m args below meth c A cells slots Z C hz H locs ls Wd S hl
  have h1 : retOK M pc c0 := by unfold retOK; rw [hr]; exact hd
  have h2 := hz c0 σ H locs pc ls k Wd S h1
  have h3 : (retv X M.2.2.2.1 c0).toList = [.ref (cxA X c0)] := by unfold retv; rw [hr]; rfl
  rw [h3] at h2
  exact h2
theorem World.moved {X : Cx} {σ : Sg} {s U : State} {H : Heap} (hvm : s.vm.Alike U.vm) (h : World X σ s H) : World X σ U H := ⟨h.1, va_K.moved hvm h.2.1, h.2.2.1, h.2.2.2⟩
/-- a method's end, for every caller -/
def QV (X : Cx) (M : MI) (Q : Int → Sg → Prop) : Array Value → State → Outcome → State → Prop := fun _ st oc t => (∃ (r : Int) (σ' : Sg), oc = .returned (retv X M.2.2.2.1 r) ∧ Q r σ' ∧ World X σ' t t.heap) ∧ va_F (AX X) st t
/-- a method's contract: from the world σ it returns, with an answer and a world of which Q -/
def CC (X : Cx) (M : MI) (av : List Value) (σ : Sg) (Q : Int → Sg → Prop) : Prop := Met (cxL X) M.1 (wsM M) M.2.2.2.2 (va_Pc av (fun U => World X σ U U.heap ∧ Stc X (AX X) U U.heap)) (QV X M Q) 0 0 (AX X)
theorem V_enter {X : Cx} {M : MI} {av : List Value} {σ : Sg} {Q : Int → Sg → Prop} {L : List (Nat × Value)} (hy : plainName M.1.cls = true) (hlen : (lg_sl av).length ≤ M.2.2.1) (hL : lv_args 0 av = L) (h : VV X M 0 L [] σ Q) : CC X M av σ Q := by
  subst hL
  refine Met.ofW (cc := M.2.1) (maxL := M.2.2.1) (ret := M.2.2.2.1) hy rfl ?_
  intro p e s m args below meth c s₁ B hml hv
  obtain ⟨rfl, Wd, St⟩ := hv
  have hts := atoms_spec (ws := wsM M) B.pre
  have hlocks := B.notSynchronized
  have hl := lv_entry av hlen
  rw [lg_entry_eq]
  generalize (lg_sl av ++ List.replicate (M.2.2.1 - (lg_sl av).length) Slot.unset).toArray = ls at hl ⊢
  refine h p e s m _ below meth c (AX X) 0 0 _ ⟨B.exec, B.bytes, hml, B.returns, hlocks, findClass_of_methodNamed B.named, fun w hw => hts w (List.mem_cons_of_mem _ hw), fun _ q => q, St, Nat.zero_le _, Nat.zero_le _⟩ ?_ s.heap [] ls Wd va_S.rf hl
  intro r σ' H' locs' pc' ls' hq Wd' S' hok
  have hr := B.returns
  have post : ∀ t : State, t.heap = H' → s.WarmedH t.vm → QV X M Q av.toArray s (.returned (retv X M.2.2.2.1 r)) t := fun t ht hW => ⟨⟨r, σ', rfl, hq, by rw [ht]; exact Wd'.moved hW.alike⟩, S'.F ht⟩
  unfold retOK at hok
  generalize hret : M.2.2.2.1 = ret at hok post hr ⊢
  match ret, hok, post, hr with
  | none, hok, post, hr => exact W.vret B.exec B.bytes hr post S'.2.2 hok
  | some (.object n), hok, post, hr => exact W.aret B.exec B.bytes hr (Or.inl ⟨n, rfl⟩) (Or.inr ⟨_, rfl⟩) post S'.2.2 hok
  | some .int, hok, post, hr => exact W.zret B.exec B.bytes hr hok.2 post S'.2.2 hok.1
  | some .boolean, hok, post, hr => exact W.zret B.exec B.bytes hr hok.2 post S'.2.2 hok.1
  | some .char, hok, post, hr => exact W.zret B.exec B.bytes hr hok.2 post S'.2.2 hok.1
  | some .byte, hok, post, hr => exact W.zret B.exec B.bytes hr hok.2 post S'.2.2 hok.1
  | some .short, hok, post, hr => exact W.zret B.exec B.bytes hr hok.2 post S'.2.2 hok.1
  | some .long, hok, post, hr => exact W.zret B.exec B.bytes hr hok.2 post S'.2.2 hok.1
  | some .float, hok, post, hr => exact W.zret B.exec B.bytes hr hok.2 post S'.2.2 hok.1
  | some .double, hok, post, hr => exact W.zret B.exec B.bytes hr hok.2 post S'.2.2 hok.1
  | some (.array t), hok, post, hr => exact W.zret B.exec B.bytes hr hok.2 post S'.2.2 hok.1
def okB (M : MI) (n : Nat) : Prop := Cond.code M.1 M.2.1 M.2.2.1 M.2.2.2.1 ∈ gdT ∧ Cond.initialized M.1.cls ∈ gdT ∧ (M.1.cls ≠ "java/lang/invoke/MethodHandle" ∧ M.1.cls ≠ "java/lang/invoke/VarHandle" ∧ (parseMethodDescriptor M.1.desc).map (fun d => d.parameters.length) = some n) ∧ M.2.2.2.2.cells = 0 ∧ M.2.2.2.2.slots = 0
theorem tbl_good {w : Cond} (h : w ∈ gdT) : goodWord w = true := (List.mem_filter.mp h).2
theorem okB.good {M : MI} {n : Nat} (h : okB M n) : GoodIn gdT (wsM M) := by
  intro w hw
  rcases List.mem_cons.mp hw with rfl | hw
  · exact ⟨h.1, good_of_word (tbl_good h.1)⟩
  · exact ⟨hw, good_of_word (tbl_good hw)⟩
theorem CC_blind {X : Cx} {av : List Value} {σ : Sg} : FrameBlind (va_Pc av (fun U => World X σ U U.heap ∧ Stc X (AX X) U U.heap)) := by
  intro a U g mk q
  obtain ⟨h1, h2, h3⟩ := q
  exact ⟨h1, World.moved (s := U) (U := U.calling g mk a) (Vm.Alike.refl U.vm) h2, Stc.warm (s := U) (U := U.calling g mk a) (State.WarmedH.refl U) h3⟩
section VCALL
variable {X : Cx} {M M' : MI} {σ : Sg} {Q : Int → Sg → Prop} {p : Program} {e : Env} {s : State} {m : MethodId} {args : Array Value} {below : List Frame} {meth : Method} {c : Code} {A : Nat → Prop} {cells slots : Nat} {Z : State → Prop} {pc : Nat} {L : List (Nat × Value)} {st st0 : List Value} {H : Heap} {locs : List Loc} {ls : Array Slot} {a : Array Value}
theorem V_back (C : VC X M p s m args meth c A cells slots)
    (hz : ∀ (r : Int) (σ' : Sg) (H' : Heap) (locs' : List Loc) (pc' : Nat) (ls' : Array Slot), Q r σ' → World X σ' s H' → va_S A s.heap H' locs' → retOK M pc' r → W p (cxL X) e M.2.2.2.2 s m args below meth c H' locs' cells slots Z (F0 m pc' ls' (retv X M.2.2.2.1 r).toList))
    (S : va_S A s.heap H locs) (hl : lv_has ls M.2.2.1 L)
    (hr : va_Run p (cxL X) e M.2.2.2.2 s m args below meth c H locs cells slots 0 0 (F0 m pc ls st0) st (QV X M' (fun r σ' => VV X M (pc + 3) L ((retv X M'.2.2.2.1 r).toList ++ st) σ' Q) a) (AX X)) :
    W p (cxL X) e M.2.2.2.2 s m args below meth c H locs cells slots Z (F0 m pc ls st0) := by
  have hA := C.2.2.2.2.2.2.2.1
  intro T hT Xs
  obtain ⟨v, st₀, t, T', L', h0, X', hL, e1, e2, ⟨⟨r, σ', hv, hq, Wd⟩, hz1, hk⟩, stp⟩ := hr T hT Xs
  cases hv
  rw [h0] at hz1 hk
  rw [← e1] at Wd hz1 hk
  have hal : t.vm.Alike s.vm := by rw [← e2]; exact X'.warmed.alike.symm
  have S' : va_S A s.heap T'.heap (locs ++ L') := ⟨Nat.le_trans S.1 hz1, fun q h1 h2 => by rw [hk q (Nat.lt_of_lt_of_le h1 S.1) (fun z => h2 (hA q z))]; exact S.2.1 q h1 h2, fun q hq => by
    rcases List.mem_append.mp hq with h | h
    · exact S.2.2 q h
    · exact hA _ (hL q h)⟩
  obtain ⟨t2, a1, b1⟩ := hq p e s m args below meth c A cells slots Z C hz T'.heap (locs ++ L') ls (Wd.moved hal) S' hl T' rfl X'
  exact ⟨t2, stp t2 a1, b1⟩
theorem V_pre {av : List Value} (C : VC X M p s m args meth c A cells slots) (Wd : World X σ s H) (S : va_S A s.heap H locs) : ∀ U : State, U.heap = H → s.WarmedH U.vm → va_Pc av (fun U => World X σ U U.heap ∧ Stc X (AX X) U U.heap) av.toArray U := by
  intro U hU hW
  refine ⟨rfl, by rw [hU]; exact Wd.moved hW.alike, ?_⟩
  rw [hU]
  exact ((C.2.2.2.2.2.2.2.2.1.kept S.1 S.2.1).narrow C.2.2.2.2.2.2.2.1).warm hW
theorem V_roomOK (C : VC X M p s m args meth c A cells slots) : cells + 0 ≤ M.2.2.2.2.cells ∧ slots + 0 ≤ M.2.2.2.2.slots := ⟨C.2.2.2.2.2.2.2.2.2.1, C.2.2.2.2.2.2.2.2.2.2⟩
end VCALL

theorem V_callV {X : Cx} {M : MI} {pc : Nat} {L : List (Nat × Value)} {st st0 : List Value} {σ : Sg} {Q : Int → Sg → Prop} {M' : MI} {idx n : Nat} {c0 ci n0 N : Nat} {T : u_T} {As : List Value} (hok : okB M' n) (hi : Cond.instanceMethod M'.1 ∈ gdT ∧ Cond.selects M'.1.cls M'.1 M'.1 ∈ gdT) (hs : shp c0 = (ci, n0)) (hc : vwCl[ci]? = some (M'.1.cls, T, N)) (hci : ci < 20) (hn : As.length = n) (hst : st0 = As.reverse ++ .ref (cxA X c0) :: st) (hsum : (st.map fun v => v.category).sum ≤ 8) (hd : decode M.2.1 pc = .ok (.invokevirtual idx, 3)) (hl0 : Cond.methodLink M.1.cls idx M'.1 ∈ gdT) (hR : M'.2.2.2.2.frames + 1 ≤ M.2.2.2.2.frames ∧ 8 + (M'.2.2.1 + 11) + M'.2.2.2.2.locals ≤ M.2.2.2.2.locals) (h : CC X M' (.ref (cxA X c0) :: As) σ (fun r σ' => VV X M (pc + 3) L ((retv X M'.2.2.2.1 r).toList ++ st) σ' Q)) : VV X M pc L st0 σ Q := by
  intro p e s m args below meth c A cells slots Z C hz H locs ls Wd S hl
  subst hst
  refine V_back C hz S hl (va_runV ⟨C.1, C.2.1, C.2.2.1, C.2.2.2.2.2.1, C.2.2.2.2.2.2.1⟩ h ⟨(callB_of n C.2.2.2.2.2.2.1 hok.good rfl hok.2.2.2.1 hok.2.2.2.2 (C.2.2.2.2.2.2.1 _ hok.2.1) (C.2.2.2.2.2.2.1 _ hl0) hok.2.2.1 hR), C.2.2.2.2.2.2.1 _ hi.1, C.2.2.2.2.2.2.1 _ hi.2⟩ ⟨CC_blind, va_recv (ci := ci) (q0 := c0) Wd.2.1 Wd.1 hc (by rw [wl_get (shp_lt (by rw [hs]; exact Nat.lt_trans hci (by decide))), cont_obj hs hci]), V_pre C Wd S⟩ rfl hn hl.1 rfl (lv_room hsum) hd (V_roomOK C))
theorem V_callS {X : Cx} {M : MI} {pc : Nat} {L : List (Nat × Value)} {st st0 : List Value} {σ : Sg} {Q : Int → Sg → Prop} {M' : MI} {idx n : Nat} {As : List Value} (hok : okB M' n) (hi : Cond.static M'.1 ∈ gdT) (hn : As.length = n) (hst : st0 = As.reverse ++ st) (hsum : (st.map fun v => v.category).sum ≤ 8) (hd : decode M.2.1 pc = .ok (.invokestatic idx, 3)) (hl0 : Cond.methodLink M.1.cls idx M'.1 ∈ gdT) (hR : M'.2.2.2.2.frames + 1 ≤ M.2.2.2.2.frames ∧ 8 + (M'.2.2.1 + 11) + M'.2.2.2.2.locals ≤ M.2.2.2.2.locals) (h : CC X M' As σ (fun r σ' => VV X M (pc + 3) L ((retv X M'.2.2.2.1 r).toList ++ st) σ' Q)) : VV X M pc L st0 σ Q := by
  intro p e s m args below meth c A cells slots Z C hz H locs ls Wd S hl
  subst hst
  refine V_back C hz S hl (va_runS ⟨C.1, C.2.1, C.2.2.1, C.2.2.2.2.2.1, C.2.2.2.2.2.2.1⟩ h ⟨(callB_of n C.2.2.2.2.2.2.1 hok.good rfl hok.2.2.2.1 hok.2.2.2.2 (C.2.2.2.2.2.2.1 _ hok.2.1) (C.2.2.2.2.2.2.1 _ hl0) hok.2.2.1 hR), C.2.2.2.2.2.2.1 _ hi⟩ ⟨CC_blind, V_pre C Wd S⟩ rfl hn hl.1 rfl (lv_room hsum) hd (V_roomOK C))
theorem V_callSN {X : Cx} {M : MI} {pc : Nat} {L : List (Nat × Value)} {st st0 : List Value} {σ : Sg} {Q : Int → Sg → Prop} {M' : MI} {idx n : Nat} {host : String} {As : List Value} (hok : okB M' n) (hi : Cond.static M'.1 ∈ gdT) (hn : As.length = n) (hst : st0 = As.reverse ++ st) (hsum : (st.map fun v => v.category).sum ≤ 8) (hd : decode M.2.1 pc = .ok (.invokestatic idx, 3)) (hl0 : Cond.methodLinkNest M.1.cls idx M'.1 host ∈ lw_tbl) (hR : M'.2.2.2.2.frames + 1 ≤ M.2.2.2.2.frames ∧ 8 + (M'.2.2.1 + 11) + M'.2.2.2.2.locals ≤ M.2.2.2.2.locals) (h : CC X M' As σ (fun r σ' => VV X M (pc + 3) L ((retv X M'.2.2.2.1 r).toList ++ st) σ' Q)) : VV X M pc L st0 σ Q := by
  intro p e s m args below meth c A cells slots Z C hz H locs ls Wd S hl
  subst hst
  refine V_back C hz S hl (va_runSN ⟨C.1, C.2.1, C.2.2.1, C.2.2.2.2.2.1, C.2.2.2.2.2.2.1⟩ h ⟨va_cnB n C.2.2.2.2.2.2.1 hok.good rfl hok.2.2.2.1 hok.2.2.2.2 (C.2.2.2.2.2.2.2.2.1.2.2.2.2.2.2 _ _ _ _ hl0) (C.2.2.2.2.2.2.1 _ hok.2.1) hok.2.2.1 hR, C.2.2.2.2.2.2.1 _ hi, trivial⟩ ⟨CC_blind, V_pre C Wd S⟩ rfl hn hl.1 rfl (lv_room hsum) hd (V_roomOK C))
