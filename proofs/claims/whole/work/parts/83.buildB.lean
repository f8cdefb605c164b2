/-! building: calls, rows of arrays, loops -/
theorem good_gd {M : MI} (h : Cond.code M.1 M.2.1 M.2.2.1 M.2.2.2.1 ∈ gdT) : GoodIn gdT (wsM M) := by
  intro w hw
  rcases List.mem_cons.mp hw with rfl | hw
  · exact ⟨h, good_of_word (tbl_good h)⟩
  · exact ⟨hw, good_of_word (tbl_good hw)⟩
/-- a called method's cell, and what stays beside it -/
theorem back_join {D : va_G} {A : Nat → Prop} {w0 w1 : va_W} {q : Nat} {e0 : va_E} {H H1 : Heap} (hP : va_P D vwCl (w0 ++ [(q, e0)]) H) (hD : va_D A (w0 ++ [(q, e0)])) (hA : ∀ x : Nat, va_A [(q, e0)] H.size x → A x) (hk : ∀ x : Nat, x < H.size → ¬ va_A [(q, e0)] H.size x → H1[x]? = H[x]?) (hP1 : va_P D vwCl w1 H1) (hD1 : va_D (va_A [(q, e0)] H.size) w1) : va_P D vwCl (w0 ++ w1) H1 ∧ va_D A (w0 ++ w1) := by
  have at0 : ∀ (i : Nat) (x : Nat × va_E), w0[i]? = some x → i < w0.length ∧ (w0 ++ [(q, e0)])[i]? = some x := fun i x hx => by
    have hi := (List.getElem?_eq_some_iff.mp hx).1
    exact ⟨hi, by rw [List.getElem?_append_left hi]; exact hx⟩
  have off : ∀ (i : Nat) (x : Nat × va_E), w0[i]? = some x → x.1 < H.size ∧ ¬ va_A [(q, e0)] H.size x.1 := fun i x hx => by
    obtain ⟨hi, h2⟩ := at0 i x hx
    have lt := (hP i x h2).lt
    refine ⟨lt, fun h => ?_⟩
    rcases h with ⟨k, e, hk⟩ | h
    · have hk0 : k < 1 := (List.getElem?_eq_some_iff.mp hk).1
      have hk0 : k = 0 := by omega
      subst hk0
      have e1 : q = x.1 := congrArg Prod.fst (Option.some.inj hk)
      have := hD.1 i w0.length x (q, e0) h2 (by simp) e1.symm
      omega
    · omega
  refine ⟨va_P.app (va_P.kept (H := H) (fun i x hx => ?_) fun i x hx => ?_) hP1, va_D.app ⟨fun i j x y hx hy h => ?_, fun i x hx => ?_⟩ (hD1.weaken fun _ _ _ h => hA _ h) fun i j x y hx hy h => ?_⟩
  · exact hP i x (at0 i x hx).2
  · exact hk x.1 (off i x hx).1 (off i x hx).2
  · exact hD.1 i j x y (at0 i x hx).2 (at0 j y hy).2 h
  · exact hD.2 i x (at0 i x hx).2
  · exact (off i x hx).2 (by rw [h]; exact hD1.2 j y hy)
section BROWS2
variable {l : Launch} {D : va_G} {Y : Nat → ClassId} {M : MI} {pc : Nat} {L : List (Nat × Value)} {st : List Value} {ks : List Nat} {ws : va_W} {ck cs : Nat} {F : List Nat → va_W → Prop}
theorem B_sub {L' : List (Nat × Value)} (is : List Nat) (hs : lv_pick L is = L') (h : BB l D Y M pc L' st ks ws ck cs F) : BB l D Y M pc L st ks ws ck cs F := by
  intro p e s m args below meth c A Z C hz H locs ls hP hK hD hS hl
  exact h p e s m args below meth c A Z C hz H locs ls hP hK hD hS (lv_sub hl is hs)
theorem B_istore {L' : List (Nat × Value)} {q : Fin 4} {i : Nat} {x : Int32} (hi : (q : Nat) = i) (hn : i < M.2.2.1) (hL : (i, Value.int x) :: L.filter (fun q => !(q.1 == i) && !(q.1 + 1 == i && q.2.category == 2)) = L') (hd : decode M.2.1 pc = .ok (.istore_n q, 1)) (k : BB l D Y M (pc + 1) L' st ks ws ck cs F) : BB l D Y M pc L (.int x :: st) ks ws ck cs F := by
  intro p e s m args below meth c A Z C hz H locs ls hP hK hD hS hl
  exact lv_istore_n C.1 C.2.1 hd hi hl hn hL (fun ls hl => k p e s m args below meth c A Z C hz H locs ls hP hK hD hS hl)
theorem B_iinc {L' : List (Nat × Value)} {i : Nat} {n : Int} {x y : Int32} (j : Nat) (hj : L[j]? = some (i, .int x)) (hy : x + Int32.ofInt n = y) (hn : i < M.2.2.1) (hL : (i, Value.int y) :: L.filter (fun q => !(q.1 == i) && !(q.1 + 1 == i && q.2.category == 2)) = L') (hd : decode M.2.1 pc = .ok (.iinc i n, 3)) (k : BB l D Y M (pc + 3) L' st ks ws ck cs F) : BB l D Y M pc L st ks ws ck cs F := by
  intro p e s m args below meth c A Z C hz H locs ls hP hK hD hS hl
  exact lv_iinc C.1 C.2.1 hd hl hj hy hn hL (fun ls hl => k p e s m args below meth c A Z C hz H locs ls hP hK hD hS hl)
theorem B_goto {off : Int} {tgt : Nat} (hd : decode M.2.1 pc = .ok (.goto off, 3)) (ht : (pc : Int) + off = (tgt : Int)) (k : BB l D Y M tgt L st ks ws ck cs F) : BB l D Y M pc L st ks ws ck cs F := by
  intro p e s m args below meth c A Z C hz H locs ls hP hK hD hS hl
  exact lv_goto C.1 C.2.1 hd ht (k p e s m args below meth c A Z C hz H locs ls hP hK hD hS hl)
theorem B_ge {off : Int} {tgt : Nat} {x y : Int32} (hd : decode M.2.1 pc = .ok (.if_icmp .ge off, 3)) (ht : (pc : Int) + off = (tgt : Int)) (kt : y ≤ x → BB l D Y M tgt L st ks ws ck cs F) (kf : ¬ y ≤ x → BB l D Y M (pc + 3) L st ks ws ck cs F) : BB l D Y M pc L (.int y :: .int x :: st) ks ws ck cs F := by
  intro p e s m args below meth c A Z C hz H locs ls hP hK hD hS hl
  exact lv_icmp_ge C.1 C.2.1 hd ht (fun q => kt q p e s m args below meth c A Z C hz H locs ls hP hK hD hS hl) (fun q => kf q p e s m args below meth c A Z C hz H locs ls hP hK hD hS hl)
theorem VK.at {k : Nat} {U : State} (h : VK D Y ks U) (hk : k ∈ ks) : ∃ j : Nat, (btl Y ks)[j]? = some (Y k, bty k) := List.getElem?_of_mem (List.mem_map.mpr ⟨k, hk, rfl⟩)
theorem B_alen {a n : Nat} {v : Int32} {x : vp_A} (j : Nat) (ha : ws[j]? = some (a, .inl (Y 0, x))) (h0 : 0 ∈ ks) (hv : Int32.ofNat x.1 = v) (hd : decode M.2.1 pc = .ok (.arraylength, 1)) (k : BB l D Y M (pc + 1) L (.int v :: st) ks ws ck cs F) : BB l D Y M pc L (.ref a :: st) ks ws ck cs F := by
  intro p e s m args below meth c A Z C hz H locs ls hP hK hD hS hl
  obtain ⟨t0, ht⟩ := hK.at h0
  exact va_alen C.1 C.2.1 hK hP j t0 ha ht hv hd (k p e s m args below meth c A Z C hz H locs ls hP hK hD hS hl)
theorem B_iast {a n : Nat} {f : Nat → Int32} {i x : Int32} (j : Nat) (ha : ws[j]? = some (a, .inl (Y 0, n, .inl f))) (h0 : 0 ∈ ks) (hin : vp_in i n) (hd : decode M.2.1 pc = .ok (.iastore, 1)) (k : BB l D Y M (pc + 1) L st ks (ws.set j (a, .inl (Y 0, n, .inl (upd f i.toNatClampNeg x)))) ck cs F) : BB l D Y M pc L (.int x :: .int i :: .ref a :: st) ks ws ck cs F := by
  intro p e s m args below meth c A Z C hz H locs ls hP hK hD hS hl
  obtain ⟨t0, ht⟩ := hK.at h0
  refine va_iast C.1 C.2.1 hK hP hD hS j t0 ha ht hin hd (fun H1 locs1 hP1 hD1 hS1 => ?_)
  exact k p e s m args below meth c A Z C hz H1 locs1 ls hP1 hK hD1 hS1 hl
theorem B_newq {n idx : Nat} {v : Int32} (h1 : Cond.classLink M.1.cls idx "GreenDoor$Saying" ∈ gdT) (hn0 : ¬ v < 0) (hn : v.toNatClampNeg = n) (hb : n * 4 ≤ 536870912) (hck : ck + 1 ≤ M.2.2.2.2.cells) (hcs : cs + n ≤ M.2.2.2.2.slots) (hd : decode M.2.1 pc = .ok (.anewarray idx, 3)) (k : ∀ q : Nat, BB l D Y M (pc + 3) L (.ref q :: st) (ks ++ [4]) (ws ++ [(q, .inl (Y 4, n, .inr (.inr (.inr (.inr (fun _ => none))))))]) (ck + 1) (cs + n) F) : BB l D Y M pc L (.int v :: st) ks ws ck cs F := by
  intro p e s m args below meth c A Z C hz H locs ls hP hK hD hS hl
  refine va_newq C.1 C.2.1 C.2.2.2.2.1 (C.2.2.2.2.2.1 _ h1) C.2.2.2.2.2.2.2.2.2.2.2 hK hP hD hS C.2.2.2.2.2.2.2.1 hn0 hn hb hck hcs hd (fun q cA H1 hK1 hP1 hD1 hS1 => ?_)
  have e1 := VK.cls (k := 4) hK1 (by decide) C.2.2.2.2.2.2.2.2.1
  subst e1
  exact k q p e s m args below meth c A Z C hz H1 locs ls hP1 (VK.add (k := 4) hK1 (by decide) C.2.2.2.2.2.2.2.2.1) hD1 hS1 hl
theorem B_astq {a n v : Nat} {vs : List Value} {f : Nat → Option Nat} {i : Int32} (j jk : Nat) (ha : ws[j]? = some (a, .inl (Y 4, n, .inr (.inr (.inr (.inr f)))))) (h4 : 4 ∈ ks) (hv : ws[jk]? = some (v, .inr (3, vs))) (hin : vp_in i n) (hd : decode M.2.1 pc = .ok (.aastore, 1)) (k : BB l D Y M (pc + 1) L st ks (ws.set j (a, .inl (Y 4, n, .inr (.inr (.inr (.inr (va_up f i.toNatClampNeg (some v)))))))) ck cs F) : BB l D Y M pc L (.ref v :: .int i :: .ref a :: st) ks ws ck cs F := by
  intro p e s m args below meth c A Z C hz H locs ls hP hK hD hS hl
  obtain ⟨t0, ht⟩ := hK.at h4
  refine va_astq C.1 C.2.1 hK hP hD hS j t0 jk 3 (r := (RX4, TX4, 3)) ha ht hv rfl hin hd (fun H1 locs1 hP1 hD1 hS1 => ?_)
  exact k p e s m args below meth c A Z C hz H1 locs1 ls hP1 hK hD1 hS1 hl
theorem B_mna {idx : Nat} (h1 : Cond.classLink M.1.cls idx "[[I" ∈ gdT) (h3 : Cond.arrayClass .int ∈ gdT) (hck : ck + 9 ≤ M.2.2.2.2.cells) (hcs : cs + 72 ≤ M.2.2.2.2.slots) (hd : decode M.2.1 pc = .ok (.multianewarray idx 2, 4)) (k : ∀ (q : Nat) (r : Nat → Nat), BB l D Y M (pc + 4) L (.ref q :: st) (ks ++ [3]) (ws ++ [(q, .inl (Y 3, 8, .inr (.inr (.inr (.inr (fun i => if i < 8 then some (r i) else none)))))), (r 0, .inl (Y 0, 8, .inl (fun _ => 0))), (r 1, .inl (Y 0, 8, .inl (fun _ => 0))), (r 2, .inl (Y 0, 8, .inl (fun _ => 0))), (r 3, .inl (Y 0, 8, .inl (fun _ => 0))), (r 4, .inl (Y 0, 8, .inl (fun _ => 0))), (r 5, .inl (Y 0, 8, .inl (fun _ => 0))), (r 6, .inl (Y 0, 8, .inl (fun _ => 0))), (r 7, .inl (Y 0, 8, .inl (fun _ => 0)))]) (ck + 9) (cs + 72) F) : BB l D Y M pc L (.int 8 :: .int 8 :: st) ks ws ck cs F := by
  intro p e s m args below meth c A Z C hz H locs ls hP hK hD hS hl
  have e0 : ws ++ va_pl [] (fun _ => (.inl (Y 0, 0, .inl (fun _ => 0)) : va_E)) = ws := List.append_nil _
  refine va_mna (X := ws) (L := []) (f := fun _ => (.inl (Y 0, 0, .inl (fun _ => 0)) : va_E)) (ty := .int) (N' := 8) (K' := 8) (z := (8, .inl (fun _ => 0))) C.1 C.2.1 C.2.2.2.2.1 (C.2.2.2.2.2.1 _ h1) C.2.2.2.2.2.2.2.2.2.2.1 (C.2.2.2.2.2.1 _ h3) (C.2.2.2.2.2.2.2.2.1 0 (by decide)) hK (by rw [e0]; exact hP) (by rw [e0]; exact hD) hS C.2.2.2.2.2.2.2.1 (by decide) (by decide) (by decide) (by decide) (by decide) (by decide) (by decide) rfl rfl (by omega) (by omega) (fun c => ?_) hd (fun q r cA H1 hr hrl hK1 hP1 hD1 hS1 => ?_)
  · rw [vp_cell_i]
    show _ = arrV c 8 (fun _ => defaultValue .int)
    rw [← arrV_new]
    rfl
  · have e1 := VK.cls (k := 3) hK1 (by decide) C.2.2.2.2.2.2.2.2.1
    subst e1
    have e2 : va_pl ([] ++ (List.range 8).map r) (vr_up (fun _ => (.inl (Y 0, 0, .inl (fun _ => 0)) : va_E)) ((List.range 8).map r) (.inl (Y 0, 8, .inl (fun _ => 0)))) = [(r 0, .inl (Y 0, 8, .inl (fun _ => 0))), (r 1, .inl (Y 0, 8, .inl (fun _ => 0))), (r 2, .inl (Y 0, 8, .inl (fun _ => 0))), (r 3, .inl (Y 0, 8, .inl (fun _ => 0))), (r 4, .inl (Y 0, 8, .inl (fun _ => 0))), (r 5, .inl (Y 0, 8, .inl (fun _ => 0))), (r 6, .inl (Y 0, 8, .inl (fun _ => 0))), (r 7, .inl (Y 0, 8, .inl (fun _ => 0)))] := by
      rw [List.nil_append]
      unfold va_pl
      have : ((List.range 8).map r).map (fun a => (a, vr_up (fun _ => (.inl (Y 0, 0, .inl (fun _ => 0)) : va_E)) ((List.range 8).map r) (.inl (Y 0, 8, .inl (fun _ => 0))) a)) = ((List.range 8).map r).map (fun a => (a, (.inl (Y 0, 8, .inl (fun _ => 0)) : va_E))) := List.map_congr_left fun a ha => by rw [vr_up_in ha]
      rw [this]
      rfl
    rw [e2, List.append_assoc] at hP1 hD1
    exact k q r p e s m args below meth c A Z C hz H1 locs ls hP1 (VK.add (k := 3) hK1 (by decide) C.2.2.2.2.2.2.2.2.1) hD1 hS1 hl
theorem B_call {M' : MI} {q idx ci' : Nat} {fs' : List Value} {ks' : List Nat} {Wf : Nat → (Nat → Nat) → va_W} {host : String} (hc : CtB l D Y M' ci' fs' ks' Wf) (hcode : Cond.code M'.1 M'.2.1 M'.2.2.1 M'.2.2.2.1 ∈ gdT) (hini : Cond.initialized M'.1.cls ∈ gdT) (hinst : Cond.instanceMethod M'.1 ∈ gdT) (hpl : M'.1.cls ≠ "java/lang/invoke/MethodHandle" ∧ M'.1.cls ≠ "java/lang/invoke/VarHandle" ∧ (parseMethodDescriptor M'.1.desc).map (fun d => d.parameters.length) = some 0) (hret : M'.2.2.2.1 = none) (hnm : M'.1.name = "<init>") (hl0 : Cond.methodLinkNest M.1.cls idx M'.1 host ∈ lw_tbl) (hR : M'.2.2.2.2.frames + 1 ≤ M.2.2.2.2.frames ∧ 8 + (M'.2.2.1 + 11) + M'.2.2.2.2.locals ≤ M.2.2.2.2.locals) (hsum : (st.map fun v => v.category).sum ≤ 8) (hck : ck + M'.2.2.2.2.cells ≤ M.2.2.2.2.cells) (hcs : cs + M'.2.2.2.2.slots ≤ M.2.2.2.2.slots) (hd : decode M.2.1 pc = .ok (.invokespecial idx, 3)) (k : ∀ u : Nat → Nat, BB l D Y M (pc + 3) L st (ks ++ ks') (ws ++ Wf q u) (ck + M'.2.2.2.2.cells) (cs + M'.2.2.2.2.slots) F) : BB l D Y M pc L (.ref q :: st) ks (ws ++ [(q, .inr (ci', fs'))]) ck cs F := by
  intro p e s m args below meth c A Z C hz H locs ls hP hK hD hS hl
  have hA := C.2.2.2.2.2.2.2.1
  have eg : (ws ++ [(q, (.inr (ci', fs') : va_E))])[ws.length]? = some (q, .inr (ci', fs')) := by simp
  have hPc : va_P D vwCl [(q, .inr (ci', fs'))] H := hP.sub [ws.length] (by simp)
  have hDc : va_D A [(q, (.inr (ci', fs') : va_E))] := hD.sub [ws.length] rfl (by simp)
  have hKc : va_K D vwCl [] s := hK.sub (tys' := []) [] rfl
  have hFc := va_free (wc := [(q, (.inr (ci', fs') : va_E))]) hD hS hA [ws.length] (by simp)
  have hts := C.2.2.2.2.2.1
  refine va_callv (va_runIN (As := []) (rest := st) ⟨C.1, C.2.1, C.2.2.1, C.2.2.2.2.1, hts⟩ (hc q H.size) ⟨(by rw [← hret]; exact va_cnB 0 hts (good_gd hcode) rfl rfl rfl (C.2.2.2.2.2.2.2.2.2.1 _ _ _ _ hl0) (hts _ hini) hpl hR), hnm, hts _ hinst⟩ ⟨fun a U g mk q => by obtain ⟨q0, q1, qP, qK, qD, qY, qN⟩ := q; exact ⟨q0, q1, qP, va_K.moved (u := U) (U := U.calling g mk a) (Vm.Alike.refl U.vm) qK, qD, tyOK.moved (u := U) (U := U.calling g mk a) (Vm.Alike.refl U.vm) qY, NST.warm (s := U) (U := U.calling g mk a) (State.WarmedH.refl U) qN⟩, fun U hU hW => ⟨rfl, by rw [hU], by rw [hU]; exact hPc, va_K.moved hW.alike hKc, hDc.weaken (fun _ _ _ _ => trivial), tyOK.moved hW.alike C.2.2.2.2.2.2.2.2.1, NST.warm hW C.2.2.2.2.2.2.2.2.2⟩⟩ rfl rfl hl.1 rfl (lv_room hsum) hd ⟨hck, hcs⟩) hS (fun x _ h => hFc x h) hFc (fun u t H1 locs1 ht hvm _ hB hz1 hk1 hS1 => ?_)
  obtain ⟨hP1, hK1, hD1⟩ := hB
  rw [ht] at hP1
  obtain ⟨hP2, hD2⟩ := back_join hP hD hFc hk1 hP1 hD1
  have hK2 : VK D Y ks' s := va_K.moved hvm.symm hK1
  refine k u p e s m args below meth c A Z C hz H1 locs1 ls hP2 ?_ hD2 hS1 hl
  have e2 : btl Y (ks ++ ks') = btl Y ks ++ btl Y ks' := List.map_append
  unfold VK
  rw [e2]
  exact va_K.app hK hK2
end BROWS2
