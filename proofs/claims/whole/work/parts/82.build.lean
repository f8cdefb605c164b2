/-! BUILDING: what constructors do -/
def bty : Nat → FieldType
  | 0 => .int
  | 1 => .boolean
  | 2 => .char
  | 3 => .array .int
  | _ => .object "GreenDoor$Saying"
def bnm (k : Nat) : String := "[" ++ (bty k).toString
def tyOK (Y : Nat → ClassId) (U : State) : Prop := ∀ k, k < 5 → U.vm.findClass (bnm k) = some (Y k)
theorem va_AOA.moved {ty : FieldType} {u U : State} (hvm : u.vm.Alike U.vm) (h : va_AOA ty u) : va_AOA ty U := by
  unfold va_AOA Cond.before at h ⊢
  exact _root_.Jvm.Stand.arrayOver_alikeB hvm h
def NST (U : State) : Prop := (∀ (a : String) (i : Nat) (x : MethodName) (h : String), Cond.methodLinkNest a i x h ∈ lw_tbl → va_Nw (.methodLinkNest a i x h) U) ∧ va_AOA .int U ∧ va_AO "GreenDoor$Saying" U
theorem tyOK.moved {Y : Nat → ClassId} {u U : State} (hvm : u.vm.Alike U.vm) (h : tyOK Y u) : tyOK Y U := fun k hk => by rw [hvm.findClass]; exact h k hk
theorem NST.warm {s U : State} (hW : s.WarmedH U.vm) (h : NST s) : NST U := ⟨fun a i x n q => (h.1 a i x n q).warmM hW, h.2.1.moved hW.alike, h.2.2.moved hW.alike⟩
def btl (Y : Nat → ClassId) (ks : List Nat) : List (ClassId × FieldType) := ks.map (fun k => (Y k, bty k))
def VK (D : va_G) (Y : Nat → ClassId) (ks : List Nat) (U : State) : Prop := va_K D vwCl (btl Y ks) U
theorem VK.mem {D : va_G} {Y : Nat → ClassId} {ks ks' : List Nat} {U : State} (h : VK D Y ks U) (hs : ∀ k, k ∈ ks' → k ∈ ks) : VK D Y ks' U := ⟨h.1, fun i q hi => by
  obtain ⟨k, hk, rfl⟩ := List.mem_map.mp (List.mem_of_getElem? hi)
  obtain ⟨j, hj⟩ := List.getElem?_of_mem (List.mem_map.mpr ⟨k, hs k hk, rfl⟩ : (Y k, bty k) ∈ btl Y ks)
  exact h.2 j _ hj⟩
theorem VK.cls {D : va_G} {Y : Nat → ClassId} {ks : List Nat} {U : State} {k : Nat} {cA : ClassId} (h : va_K D vwCl (btl Y ks ++ [(cA, bty k)]) U) (hk : k < 5) (hY : tyOK Y U) : cA = Y k := by
  have hr := (h.2 (btl Y ks).length (cA, bty k) (by simp)).2
  have hf : U.vm.findClass (bnm k) = some cA := by
    rcases (show k = 0 ∨ k = 1 ∨ k = 2 ∨ k = 3 ∨ k = 4 by omega) with rfl | rfl | rfl | rfl | rfl
    · exact hr
    · exact hr
    · exact hr
    · exact hr
    · obtain ⟨_, _, _, _, _, q⟩ := hr
      exact q
  rw [hY k hk] at hf
  exact (Option.some.inj hf).symm
theorem VK.add {D : va_G} {Y : Nat → ClassId} {ks : List Nat} {U : State} {k : Nat} {cA : ClassId} (h : va_K D vwCl (btl Y ks ++ [(cA, bty k)]) U) (hk : k < 5) (hY : tyOK Y U) : VK D Y (ks ++ [k]) U := by
  have e := VK.cls h hk hY
  subst e
  have e2 : btl Y (ks ++ [k]) = btl Y ks ++ [(Y k, bty k)] := by unfold btl; rw [List.map_append]; rfl
  unfold VK
  rw [e2]; exact h
def BCx (Y : Nat → ClassId) (M : MI) (p : Program) (s : State) (m : MethodId) (args : Array Value) (meth : Method) (c : Code) (A : Nat → Prop) : Prop :=
  p.tables.exec = Jvm.exec ∧ c.code = M.2.1 ∧ c.maxLocals = M.2.2.1 ∧ meth.sig.returnType = none ∧ s.vm.findClass M.1.cls = some m.cls ∧ (∀ w ∈ gdT, w.before args s = true) ∧ (M.1.name = "<init>" → meth.name = "<init>") ∧ (∀ q : Nat, s.heap.size ≤ q → A q) ∧ tyOK Y s ∧ NST s
def BB (l : Launch) (D : va_G) (Y : Nat → ClassId) (M : MI) (pc : Nat) (L : List (Nat × Value)) (st : List Value) (ks : List Nat) (ws : va_W) (ck cs : Nat) (F : List Nat → va_W → Prop) : Prop :=
  ∀ (p : Program) (e : Env) (s : State) (m : MethodId) (args : Array Value) (below : List Frame) (meth : Method) (c : Code) (A : Nat → Prop) (Z : State → Prop), BCx Y M p s m args meth c A →
    (∀ (ks' : List Nat) (ws' : va_W) (H' : Heap) (locs' : List Loc) (pc' : Nat) (ls' : Array Slot) (ck' cs' : Nat), F ks' ws' → ck' ≤ M.2.2.2.2.cells → cs' ≤ M.2.2.2.2.slots → va_P D vwCl ws' H' → VK D Y ks' s → va_D A ws' → va_S A s.heap H' locs' → decode M.2.1 pc' = .ok (.return_, 1) → W p l e M.2.2.2.2 s m args below meth c H' locs' ck' cs' Z (F0 m pc' ls' [])) →
    ∀ (H : Heap) (locs : List Loc) (ls : Array Slot), va_P D vwCl ws H → VK D Y ks s → va_D A ws → va_S A s.heap H locs → lv_has ls M.2.2.1 L → W p l e M.2.2.2.2 s m args below meth c H locs ck cs Z (F0 m pc ls st)
/-- a constructor's contract: out of its object's cell it makes the cells W -/
def CtB (l : Launch) (D : va_G) (Y : Nat → ClassId) (M : MI) (ci : Nat) (fs : List Value) (ks : List Nat) (Wf : Nat → (Nat → Nat) → va_W) : Prop :=
  ∀ h0 sz : Nat, Met l M.1 (wsM M) M.2.2.2.2 (va_Pc [.ref h0] (fun U => U.heap.size = sz ∧ va_P D vwCl [(h0, .inr (ci, fs))] U.heap ∧ va_K D vwCl [] U ∧ va_D (fun _ => True) [(h0, .inr (ci, fs))] ∧ tyOK Y U ∧ NST U)) (va_Qv (fun _ : Nat → Nat => True) (fun u t => va_P D vwCl (Wf h0 u) t.heap ∧ VK D Y ks t ∧ va_D (va_A [(h0, .inr (ci, fs))] sz) (Wf h0 u)) (va_A [(h0, .inr (ci, fs))] sz)) M.2.2.2.2.cells M.2.2.2.2.slots (va_A [(h0, .inr (ci, fs))] sz)
section BROWS
variable {l : Launch} {D : va_G} {Y : Nat → ClassId} {M : MI} {pc : Nat} {L : List (Nat × Value)} {st : List Value} {ks : List Nat} {ws : va_W} {ck cs : Nat} {F : List Nat → va_W → Prop}
theorem B_enter {ci : Nat} {fs : List Value} {Wf : Nat → (Nat → Nat) → va_W} (hy : plainName M.1.cls = true) (hret : M.2.2.2.1 = none) (hin : M.1.name = "<init>") (h1 : 1 ≤ M.2.2.1) (h : ∀ h0 : Nat, BB l D Y M 0 [(0, .ref h0)] [] [] [(h0, .inr (ci, fs))] 0 0 (fun ks' ws' => (∀ k, k ∈ ks → k ∈ ks') ∧ ∃ u : Nat → Nat, ws' = Wf h0 u)) : CtB l D Y M ci fs ks Wf := by
  intro h0 sz
  refine Met.ofW (cc := M.2.1) (maxL := M.2.2.1) (ret := M.2.2.2.1) hy rfl ?_
  intro p e s m args below meth c s₁ B hml hv
  obtain ⟨rfl, hsz, hP, hK, hD0, hY, hN⟩ := hv
  have hts := atoms_spec (ws := wsM M) B.pre
  have hinm : meth.name = "<init>" := (name_of_methodNamed B.named B.method).1.trans hin
  subst hsz
  have hD := hD0.self (sz := s.heap.size)
  have hl := lv_entry ([.ref h0]) (n := M.2.2.1) (by show 1 ≤ M.2.2.1; exact h1)
  rw [lg_entry_eq]
  generalize (lg_sl ([.ref h0]) ++ List.replicate (M.2.2.1 - (lg_sl ([.ref h0])).length) Slot.unset).toArray = ls at hl ⊢
  have hl : lv_has ls M.2.2.1 [(0, .ref h0)] := hl
  have hr := B.returns
  rw [hret] at hr
  refine h h0 p e s m _ below meth c (va_A [(h0, .inr (ci, fs))] s.heap.size) _ ⟨B.exec, B.bytes, hml, hr, findClass_of_methodNamed B.named, fun w hw => hts w (List.mem_cons_of_mem _ hw), fun _ => hinm, fun q hq => Or.inr hq, hY, hN⟩ ?_ s.heap [] ls hP (hK.sub (tys' := btl Y []) [] rfl) hD va_S.rf hl
  intro ks' ws' H' locs' pc' ls' ck' cs' hF hck hcs hP' hK' hD' hS' hd
  obtain ⟨hks, u, hu⟩ := hF
  subst hu
  refine W.widen hck hcs ?_
  exact W.vret B.exec B.bytes hr (fun t ht hW => ⟨⟨u, rfl, trivial, by rw [ht]; exact hP', va_K.moved hW.alike (hK'.mem hks), hD'⟩, hS'.F ht⟩) hS'.2.2 hd
theorem B_ret (hF : F ks ws) (hck : ck ≤ M.2.2.2.2.cells) (hcs : cs ≤ M.2.2.2.2.slots) (hd : decode M.2.1 pc = .ok (.return_, 1)) : BB l D Y M pc L [] ks ws ck cs F := by
  intro p e s m args below meth c A Z C hz H locs ls hP hK hD hS hl
  exact hz ks ws H locs pc ls ck cs hF hck hcs hP hK hD hS hd
theorem B_aload {q : Fin 4} {i x : Nat} (j : Nat) (hi : (q : Nat) = i) (hj : L[j]? = some (i, .ref x)) (hd : decode M.2.1 pc = .ok (.aload_n q, 1)) (k : BB l D Y M (pc + 1) L (.ref x :: st) ks ws ck cs F) : BB l D Y M pc L st ks ws ck cs F := by
  intro p e s m args below meth c A Z C hz H locs ls hP hK hD hS hl
  refine lv_aload_n C.1 C.2.1 hd hi (lv_at hl j hj) ?_
  exact k p e s m args below meth c A Z C hz H locs ls hP hK hD hS hl
theorem B_iload {q : Fin 4} {i : Nat} {x : Int32} (j : Nat) (hi : (q : Nat) = i) (hj : L[j]? = some (i, .int x)) (hd : decode M.2.1 pc = .ok (.iload_n q, 1)) (k : BB l D Y M (pc + 1) L (.int x :: st) ks ws ck cs F) : BB l D Y M pc L st ks ws ck cs F := by
  intro p e s m args below meth c A Z C hz H locs ls hP hK hD hS hl
  refine lv_iload_n C.1 C.2.1 hd hi (lv_at hl j hj) ?_
  exact k p e s m args below meth c A Z C hz H locs ls hP hK hD hS hl
theorem B_bipush {n : Int} {v : Int32} (hv : (Int8.ofInt n).toInt32 = v) (hd : decode M.2.1 pc = .ok (.bipush n, 2)) (k : BB l D Y M (pc + 2) L (.int v :: st) ks ws ck cs F) : BB l D Y M pc L st ks ws ck cs F := by
  intro p e s m args below meth c A Z C hz H locs ls hP hK hD hS hl
  refine lv_bipush C.1 C.2.1 hd hv ?_
  exact k p e s m args below meth c A Z C hz H locs ls hP hK hD hS hl
theorem B_sipush {n : Int} {v : Int32} (hv : (Int16.ofInt n).toInt32 = v) (hd : decode M.2.1 pc = .ok (.sipush n, 3)) (k : BB l D Y M (pc + 3) L (.int v :: st) ks ws ck cs F) : BB l D Y M pc L st ks ws ck cs F := by
  intro p e s m args below meth c A Z C hz H locs ls hP hK hD hS hl
  refine lv_sipush C.1 C.2.1 hd hv ?_
  exact k p e s m args below meth c A Z C hz H locs ls hP hK hD hS hl
theorem B_iconst {n : Int} {v : Int32} (hv : Int32.ofInt n = v) (hd : decode M.2.1 pc = .ok (.iconst n, 1)) (k : BB l D Y M (pc + 1) L (.int v :: st) ks ws ck cs F) : BB l D Y M pc L st ks ws ck cs F := by
  intro p e s m args below meth c A Z C hz H locs ls hP hK hD hS hl
  refine lv_iconst (v := v) C.1 C.2.1 hd hv ?_
  exact k p e s m args below meth c A Z C hz H locs ls hP hK hD hS hl
theorem B_dup {a : Nat} (hd : decode M.2.1 pc = .ok (.dup, 1)) (k : BB l D Y M (pc + 1) L (.ref a :: .ref a :: st) ks ws ck cs F) : BB l D Y M pc L (.ref a :: st) ks ws ck cs F := by
  intro p e s m args below meth c A Z C hz H locs ls hP hK hD hS hl
  refine lv_dup C.1 C.2.1 hd rfl ?_
  exact k p e s m args below meth c A Z C hz H locs ls hP hK hD hS hl
theorem B_obj {a idx : Nat} (h1 : Cond.methodLink M.1.cls idx objectInit ∈ gdT) (h2 : Cond.instanceMethod objectInit ∈ gdT) (h3 : Cond.code objectInit ⟨#[0xb1]⟩ 1 none ∈ gdT) (hf : 1 ≤ M.2.2.2.2.frames) (hlo : 12 ≤ M.2.2.2.2.locals) (hd : decode M.2.1 pc = .ok (.invokespecial idx, 3)) (k : BB l D Y M (pc + 3) L [] ks ws ck cs F) : BB l D Y M pc L [.ref a] ks ws ck cs F := by
  intro p e s m args below meth c A Z C hz H locs ls hP hK hD hS hl
  refine W.objInit C.1 C.2.1 C.2.2.2.2.1 (C.2.2.2.2.2.1 _ h1) (C.2.2.2.2.2.1 _ h2) (C.2.2.2.2.2.1 _ h3) rfl (by rw [C.2.2.1]; exact hl.1) rfl hd hf hlo ?_
  refine W.eq (g2 := F0 m (pc + 3) ls []) rfl ?_
  exact k p e s m args below meth c A Z C hz H locs ls hP hK hD hS hl
theorem B_newa {atype : ArrayType} {t n : Nat} {v : Int32} (ht : newarray.typeOf atype = bty t) (h5 : t < 5) (hdv : defaultValue (bty t) = .int 0) (harr : Cond.arrayClass (newarray.typeOf atype) ∈ gdT) (hn0 : ¬ v < 0) (hn : v.toNatClampNeg = n) (hb : n * componentBytes (bty t) ≤ 536870912) (hck : ck + 1 ≤ M.2.2.2.2.cells) (hcs : cs + n ≤ M.2.2.2.2.slots) (hd : decode M.2.1 pc = .ok (.newarray atype, 2)) (k : ∀ q : Nat, BB l D Y M (pc + 2) L (.ref q :: st) (ks ++ [t]) (ws ++ [(q, .inl (Y t, n, .inl (fun _ => 0)))]) (ck + 1) (cs + n) F) : BB l D Y M pc L (.int v :: st) ks ws ck cs F := by
  intro p e s m args below meth c A Z C hz H locs ls hP hK hD hS hl
  refine va_newa C.1 C.2.1 (C.2.2.2.2.2.1 _ harr) ht hK hP hD hS C.2.2.2.2.2.2.2.1 (a0 := (n, .inl (fun _ => 0))) (fun cA => by rw [vp_cell_i, hdv]) hn0 hn hb hck hcs hd (fun q cA H1 hK1 hP1 hD1 hS1 => ?_)
  have e1 := VK.cls hK1 h5 C.2.2.2.2.2.2.2.2.1
  subst e1
  exact k q p e s m args below meth c A Z C hz H1 locs ls hP1 (VK.add hK1 h5 C.2.2.2.2.2.2.2.2.1) hD1 hS1 hl
theorem B_new {ci N idx : Nat} {Cn : String} {T : u_T} {ty : Nat → FieldType} {fs : List Value} (hC : CI ci Cn T N ty) (h1 : Cond.classLink M.1.cls idx Cn ∈ gdT) (h2 : Cond.instantiable Cn N ∈ gdT) (h3 : Cond.initialized Cn ∈ gdT) (hfs : ∀ j, j < N → defaultValue (ty j) = vp_V fs j) (hck : ck + 1 ≤ M.2.2.2.2.cells) (hcs : cs + N ≤ M.2.2.2.2.slots) (hd : decode M.2.1 pc = .ok (.new idx, 3)) (k : ∀ q : Nat, BB l D Y M (pc + 3) L (.ref q :: st) ks (ws ++ [(q, .inr (ci, fs))]) (ck + 1) (cs + N) F) : BB l D Y M pc L st ks ws ck cs F := by
  intro p e s m args below meth c A Z C hz H locs ls hP hK hD hS hl
  refine va_new (ci := ci) (fs := fs) (C := Cn) (T := T) (N := N) C.1 C.2.1 C.2.2.2.2.2.1 hC.2.2.1 ty hC.2.2.2.1 C.2.2.2.2.1 (C.2.2.2.2.2.1 _ h1) (C.2.2.2.2.2.1 _ h2) (C.2.2.2.2.2.1 _ h3) hK hP hD hS C.2.2.2.2.2.2.2.1 hC.1 hfs hck hcs hd (fun q H1 hP1 hD1 hS1 => ?_)
  exact k q p e s m args below meth c A Z C hz H1 locs ls hP1 hK hD1 hS1 hl
theorem B_putF {ci N idx f h0 : Nat} {Cn : String} {T : u_T} {ty : Nat → FieldType} {fs : List Value} {v : Value} {rest : va_W} (hC : CI ci Cn T N ty) (hf : f < N) (hl0 : Cond.fieldLink M.1.cls idx Cn (T f).2.1 (T f).2.2.1 ∈ gdT) (hr : (T f).1 = Cn) (hini : M.1.name = "<init>") (hfin : (T f).2.2.2 = true) (hdecl : (T f).1 = M.1.cls) (hn : narrow (ty f) v = v) (hfit : fits (ty f) v = true) (hlen : f < fs.length) (hd : decode M.2.1 pc = .ok (.putfield idx, 3)) (k : BB l D Y M (pc + 3) L st ks ((h0, .inr (ci, fs.set f v)) :: rest) ck cs F) : BB l D Y M pc L (v :: .ref h0 :: st) ks ((h0, .inr (ci, fs)) :: rest) ck cs F := by
  intro p e s m args below meth c A Z C hz H locs ls hP hK hD hS hl
  refine va_putF (D := D) (ci := ci) (v := v) (ty := ty f) (C := Cn) (T := T) (N := N) C.1 C.2.1 C.2.2.2.2.2.1 hC.2.2.1 ty hC.2.2.2.1 hC.2.2.2.2 C.2.2.2.2.1 hK hP hD hS 0 rfl hC.1 f hf (C.2.2.2.2.2.1 _ hl0) (fun x hx => by rw [hr] at hx; exact hx) hfin (C.2.2.2.2.2.2.1 hini) hdecl (hC.2.2.2.1 f hf) hn hfit hlen hd (fun H1 locs1 hP1 hD1 hS1 => ?_)
  exact k p e s m args below meth c A Z C hz H1 locs1 ls hP1 hK hD1 hS1 hl
theorem B_put {ci N idx f h0 : Nat} {Cn : String} {T : u_T} {ty : Nat → FieldType} {fs : List Value} {v : Value} {rest : va_W} (hC : CI ci Cn T N ty) (hf : f < N) (hl0 : Cond.fieldLink M.1.cls idx Cn (T f).2.1 (T f).2.2.1 ∈ gdT) (hr : (T f).1 = Cn) (hfin : (T f).2.2.2 = false) (hn : narrow (ty f) v = v) (hfit : fits (ty f) v = true) (hlen : f < fs.length) (hd : decode M.2.1 pc = .ok (.putfield idx, 3)) (k : BB l D Y M (pc + 3) L st ks ((h0, .inr (ci, fs.set f v)) :: rest) ck cs F) : BB l D Y M pc L (v :: .ref h0 :: st) ks ((h0, .inr (ci, fs)) :: rest) ck cs F := by
  intro p e s m args below meth c A Z C hz H locs ls hP hK hD hS hl
  refine va_put (D := D) (ci := ci) (v := v) (ty := ty f) (C := Cn) (T := T) (N := N) C.1 C.2.1 C.2.2.2.2.2.1 hC.2.2.1 ty hC.2.2.2.1 hC.2.2.2.2 C.2.2.2.2.1 hK hP hD hS 0 rfl hC.1 f hf (C.2.2.2.2.2.1 _ hl0) (fun x hx => by rw [hr] at hx; exact hx) hfin (hC.2.2.2.1 f hf) hn hfit hlen hd (fun H1 locs1 hP1 hD1 hS1 => ?_)
  exact k p e s m args below meth c A Z C hz H1 locs1 ls hP1 hK hD1 hS1 hl
theorem B_get {ci N idx f h0 : Nat} {Cn : String} {T : u_T} {ty : Nat → FieldType} {fs : List Value} {v : Value} {rest : va_W} (hC : CI ci Cn T N ty) (hf : f < N) (hl0 : Cond.fieldLink M.1.cls idx Cn (T f).2.1 (T f).2.2.1 ∈ gdT) (hr : (T f).1 = Cn) (hv : fs[f]? = some v) (hd : decode M.2.1 pc = .ok (.getfield idx, 3)) (k : BB l D Y M (pc + 3) L (v :: st) ks ((h0, .inr (ci, fs)) :: rest) ck cs F) : BB l D Y M pc L (.ref h0 :: st) ks ((h0, .inr (ci, fs)) :: rest) ck cs F := by
  intro p e s m args below meth c A Z C hz H locs ls hP hK hD hS hl
  refine va_get (D := D) (ci := ci) (v := v) (C := Cn) (T := T) (N := N) C.1 C.2.1 C.2.2.2.2.2.1 hC.2.2.1 C.2.2.2.2.1 hK hP 0 rfl hC.1 f hf (C.2.2.2.2.2.1 _ hl0) (fun x hx => by rw [hr] at hx; exact hx) hv hd ?_
  exact k p e s m args below meth c A Z C hz H locs ls hP hK hD hS hl
end BROWS
