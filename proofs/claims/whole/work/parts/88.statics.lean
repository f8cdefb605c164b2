/-! THE CLAIM OUT OF ONE WALK OF THE LAW'S BODY. Your part is whole_start (and what it stands on); all else here is the same for every law, but numbers. -/
def R_law : String := "GreenDoorLaw"
def lw_P (b : Addr) (xs : List Int32) (args : Array Value) (s : State) : Prop := args = #[.ref b] ∧ s.IntsAt b xs ∧ xs.length ≤ 2560 ∧ (Jvm.Cond.and given_1 narrow_1).before args s = true
def lw_Q (_ : Array Value) (s : State) (o : Outcome) (t : State) : Prop := o = .returned (some (.int 1)) ∧ Framed s o t [] 600000 7302250
def lw_Z (below : List Frame) (a : Array Value) (s : State) : State → Prop := fun t => ∃ o, t.status = .running ∧ Ended t below o ∧ lw_Q a s o t
/-- the law's own end, with 1 on the stack, nothing written that was there before, its room as the claim has it -/
theorem lw_ret {p : Program} {l : Launch} {e : Env} {s : State} {m : MethodId} {below : List Frame} {meth : Method} {c : Code} {b : Nat} (hx : p.tables.exec = Jvm.exec) (hb : c.code = code) (hr : meth.sig.returnType = ret) (hlocks : meth.locks = false) {pc : Nat} {H : Heap} {ls : Array Slot} (hdg : decode code pc = .ok (.ireturn, 1)) : W p l e room_1 s m #[Value.ref b] below meth c H [] 600000 7302250 (lw_Z below #[Value.ref b] s) (F0 m pc ls [.int 1]) := by
  intro T hT X
  obtain ⟨fs, hret, hrun, hended, hW, hframe⟩ := X.leave (v := some (.int 1)) (hlocks := hlocks) (fun h => by rw [hr] at h; cases h)
  have hmeth' : T.vm.method? m = some meth := X.method'
  refine ⟨T.setFrames fs, ?_, .returned (some (.int 1)), hrun, hended, rfl, ⟨_, rfl⟩, hW, hframe⟩
  jvm_step X.here [X.here.top, hx, hb, hdg, hmeth', hr, ret, narrow_b1]
  (try refine ⟨rfl, ?_⟩); (try refine ⟨rfl, ?_⟩)
  first | (intro acts; rw [hret _ acts rfl rfl rfl]) | rw [hret _ _ rfl rfl rfl]
  exact Steps.refl _
/-- what holds at the law's entry: the machine, the code, the tables' words (any of lw_tbl by 'hts w (by decide +kernel)'), the script of L ints xs at the cell b, what the Statement gives of the start (any of its parts by flat_of_before) -/
def lw_At (p : Program) (s : State) (m : MethodId) (meth : Method) (c : Code) (b L : Nat) (xs : Nat → Int32) : Prop :=
  p.tables.exec = Jvm.exec ∧ c.code = code ∧ meth.sig.returnType = ret ∧ c.maxLocals = 4 ∧ s.vm.findClass R_law = some m.cls ∧ (∀ w ∈ lw_tbl, w.before #[Value.ref b] s = true) ∧ va_X b L xs s s.heap ∧ b < s.heap.size ∧ meth.locks = false ∧ (Jvm.Cond.and given_1 narrow_1).before #[Value.ref b] s = true
/-! what the Statement gives of the statics -/
def NW : List Jvm.Cond := flatC (Jvm.Cond.and given_1 narrow_1)
def nwB (k : Nat) : Nat := [4, 11, 41, 23, 59, 77].getD k 0
theorem nw_arr : ∀ k, k < 6 → NW[nwB k + 1]? = some (Cond.arrayOf (.static (stn k).1 (stn k).2 "[B") .byte) ∧ NW[nwB k + 2]? = some (Cond.eq (.length (.static (stn k).1 (stn k).2 "[B")) (.int (Int32.ofNat (stv k).length))) ∧ (stv k).length < 2 ^ 31 := by decide +kernel
theorem nw_el : ∀ k, k < 6 → ∀ j, j < (stv k).length → NW[nwB k + 3 + j]? = some (Cond.eq (.elem (.static (stn k).1 (stn k).2 "[B") (.int (Int32.ofNat j))) (.int (gI ((stv k).getD j 0)))) := by decide +kernel
theorem nw_nam : ∀ j, j < 120 → NW[99 + j]? = some (Cond.eq (.elem (.field (.string "GreenDoor$Words" 33) "java/lang/String" "value" "[B") (.int (Int32.ofNat j))) (.int (namL.getD j 0))) := by decide +kernel
theorem nw_str : NW[95]? = some (Cond.exactly (.string "GreenDoor$Words" 33) "java/lang/String") ∧ NW[96]? = some (Cond.eq (.field (.string "GreenDoor$Words" 33) "java/lang/String" "coder" "B") (.int 0)) ∧ NW[97]? = some (Cond.arrayOf (.field (.string "GreenDoor$Words" 33) "java/lang/String" "value" "[B") .byte) ∧ NW[98]? = some (Cond.eq (.length (.field (.string "GreenDoor$Words" 33) "java/lang/String" "value" "[B")) (.int (Int32.ofNat 120))) ∧ NW[18]? = some (Cond.eq (.static "java/lang/String" "COMPACT_STRINGS" "Z") (.int 1)) ∧ NW[19]? = some (Cond.isRef (.static "jdk/internal/util/Preconditions" "SIOOBE_FORMATTER" "Ljava/util/function/BiFunction;")) := by decide +kernel
theorem tb_lays : ∀ k, k < 6 → Cond.laysStatic (stn k).1 (stn k).2 "[B" ∈ lw_tbl ∧ Cond.initialized (stn k).1 ∈ lw_tbl := fun k hk => by
  rcases (show k = 0 ∨ k = 1 ∨ k = 2 ∨ k = 3 ∨ k = 4 ∨ k = 5 by omega) with rfl | rfl | rfl | rfl | rfl | rfl
  · exact ⟨tb_2 (List.mem_of_getElem? (i := 61) rfl), tb_1 (List.mem_of_getElem? (i := 2) rfl)⟩
  · exact ⟨tb_2 (List.mem_of_getElem? (i := 66) rfl), tb_1 (List.mem_of_getElem? (i := 2) rfl)⟩
  · exact ⟨tb_2 (List.mem_of_getElem? (i := 220) rfl), tb_1 (List.mem_of_getElem? (i := 13) rfl)⟩
  · exact ⟨tb_2 (List.mem_of_getElem? (i := 215) rfl), tb_1 (List.mem_of_getElem? (i := 13) rfl)⟩
  · exact ⟨tb_4 (List.mem_of_getElem? (i := 11) rfl), tb_1 (List.mem_of_getElem? (i := 13) rfl)⟩
  · exact ⟨tb_4 (List.mem_of_getElem? (i := 16) rfl), tb_1 (List.mem_of_getElem? (i := 13) rfl)⟩
theorem stc_start {p : Program} {s : State} {m : MethodId} {meth : Method} {c : Code} {b N : Nat} {xs : Nat → Int32} (C0 : lw_At p s m meth c b N xs) (l : Launch) (D : va_G) (Y : Nat → ClassId) (ad : Nat → Nat) : ∃ T : Nat → Nat, Stc (l, D, Y, ad, T, b, N, xs) (fun q => s.heap.size ≤ q) s s.heap := by
  obtain ⟨hx, hb, hr, hml, hown, hts, hX, hbl, hlocks, hgv⟩ := C0
  have hA : ∀ a : Nat, a < s.heap.size → ¬ (fun q : Nat => s.heap.size ≤ q) a := fun a h => Nat.not_le.mpr h
  have nw : ∀ (k : Nat) (w : Cond), NW[k]? = some w → w.before #[Value.ref b] s = true := fun k w h => flat_of_before _ hgv w (List.mem_of_getElem? h)
  have h6 : ∀ k : Nat, ∃ t : Nat, k < 6 → va_Z (stn k).1 (stn k).2 "[B" (.ref t) (fun q : Nat => s.heap.size ≤ q) s s.heap ∧ va_T .byte t (stv k).length (fun j => .int (gI ((stv k).getD j 0))) (fun q : Nat => s.heap.size ≤ q) s s.heap := fun k => by
    by_cases hk : k < 6
    · obtain ⟨n1, n2, n3⟩ := nw_arr k hk
      obtain ⟨t, ht, hT⟩ := va_Tof (f := fun j => .int (gI ((stv k).getD j 0))) (A := fun q : Nat => s.heap.size ≤ q) n3 (nw _ _ n1) (va_eqt (nw _ _ n2)) (fun j hj => va_eqt (nw _ _ (nw_el k hk j hj))) hA
      have tl := tb_lays k hk
      exact ⟨t, fun _ => ⟨va_Zref (hts _ tl.1) (hts _ tl.2) ht hA, hT⟩⟩
    · exact ⟨0, fun h => absurd h hk⟩
  obtain ⟨f, hf⟩ := Classical.axiomOfChoice h6
  obtain ⟨z1, z2, z3, z4, z5, z6⟩ := nw_str
  have g1 : ∀ i : Nat, i < 1 → ([120] : List Nat).getD i 0 < 2 ^ 31 := by
    intro i hi
    have e : i = 0 := by omega
    subst e
    decide
  have g4 : ∀ i : Nat, i < 1 → (Cond.eq (.length (.field (.string "GreenDoor$Words" 33) "java/lang/String" "value" "[B")) (.int (Int32.ofNat (([120] : List Nat).getD i 0)))).before #[Value.ref b] s = true := by
    intro i hi
    have e : i = 0 := by omega
    subst e
    exact nw _ _ z4
  have g5 : ∀ i : Nat, i < 1 → ∀ j : Nat, j < ([120] : List Nat).getD i 0 → (Cond.eq (.elem (.field (.string "GreenDoor$Words" 33) "java/lang/String" "value" "[B") (.int (Int32.ofNat j))) (.int ((([namL] : List (List Int32)).getD i []).getD j 0))).before #[Value.ref b] s = true := by
    intro i hi j hj
    have e : i = 0 := by omega
    subst e
    exact nw _ _ (nw_nam j hj)
  obtain ⟨aK, aV, hS, hE⟩ := vk_Sof (args := #[Value.ref b]) (s := s) (N := 1) (tm := fun _ => .string "GreenDoor$Words" 33) (len := [120]) (byt := [namL]) (A := fun q : Nat => s.heap.size ≤ q) g1 (fun i hi => nw _ _ z1) (fun i hi => nw _ _ z2) (fun i hi => nw _ _ z3) g4 g5 (fun i j hi hj hij => by omega) hA
  refine ⟨fun k => if k < 6 then f k else if k = 6 then aK 0 else aV 0, fun k hk => ?_, ⟨hX, hA b hbl, hbl⟩, ⟨"all     kind    colour  mark    not     and     or      but     beside  tied    most    least   leftmostsecond  only    ", vk_R.of (hts _ (tb_2 (List.mem_of_getElem? (i := 165) rfl))) (hE 0 (by decide))⟩, ⟨fun i hi => ?_, fun i j hi hj _ => by omega⟩, va_Zof (hts _ (tb_2 (List.mem_of_getElem? (i := 175) rfl))) (hts _ (tb_1 (List.mem_of_getElem? (i := 14) rfl))) (va_eqt (nw _ _ z5)) hA, va_Zqof (hts _ (tb_2 (List.mem_of_getElem? (i := 183) rfl))) (hts _ (tb_1 (List.mem_of_getElem? (i := 16) rfl))) (nw _ _ z6) hA, fun a i x h q => va_Nw.of rfl (hts _ q)⟩
  · have q := hf k hk
    show va_Z (stn k).1 (stn k).2 "[B" (.ref (if k < 6 then f k else if k = 6 then aK 0 else aV 0)) _ s s.heap ∧ va_T .byte (if k < 6 then f k else if k = 6 then aK 0 else aV 0) _ _ _ s s.heap
    rw [if_pos hk]
    exact q
  · have : i = 0 := by omega
    subst this
    exact hS.1 0 (by decide)
