/-! building: Arrays.fill of the prices -/
def onesF (n : Nat) : Nat → Int32 := fun j => if j < n then 1 else 0
def prA (Y : Nat → ClassId) (n : Nat) : va_E := .inl (Y 0, 15, .inl (onesF n))
def CtF (l : Launch) (D : va_G) (Y : Nat → ClassId) : Prop :=
  ∀ a sz : Nat, Met l yJ7_fill_53178 (wsM mJ7_fill_53178) mJ7_fill_53178.2.2.2.2 (va_Pc [.ref a, .int 1] (fun U => U.heap.size = sz ∧ va_P D vwCl [(a, prA Y 0)] U.heap ∧ VK D Y [0] U ∧ va_D (fun _ => True) [(a, prA Y 0)] ∧ tyOK Y U ∧ NST U)) (va_Qv (fun _ : Unit => True) (fun _ t => va_P D vwCl [(a, prA Y 15)] t.heap ∧ va_D (va_A [(a, prA Y 0)] sz) [(a, prA Y 15)]) (va_A [(a, prA Y 0)] sz)) 0 0 (va_A [(a, prA Y 0)] sz)
theorem ones_up {i : Nat} (hi : i < 15) : upd (onesF i) (Int32.ofNat i).toNatClampNeg 1 = onesF (i + 1) := by
  have e : ∀ i : Nat, i < 15 → (Int32.ofNat i).toNatClampNeg = i := by decide +kernel
  rw [e i hi]
  funext j
  unfold upd onesF
  by_cases q : j = i
  · subst q; simp
  · by_cases c : j < i
    · rw [if_neg q, if_pos c, if_pos (by omega)]
    · rw [if_neg q, if_neg c, if_neg (by omega)]
theorem fill_met (l : Launch) (D : va_G) (Y : Nat → ClassId) : CtF l D Y := by
  intro a sz
  have body : BB l D Y mJ7_fill_53178 0 [(0, .ref a), (1, .int 1)] [] [0] [(a, prA Y 0)] 0 0 (fun _ ws' => ws' = [(a, prA Y 15)]) := by
    have loop : ∀ d i : Nat, i + d = 15 → BB l D Y mJ7_fill_53178 5 [(3, .int 15), (2, .int (Int32.ofNat i)), (0, .ref a), (1, .int 1)] [] [0] [(a, prA Y i)] 0 0 (fun _ ws' => ws' = [(a, prA Y 15)]) := by
      intro d
      induction d with
      | zero =>
        intro i hi
        have hi : i = 15 := by omega
        subst hi
        refine B_iload 1 rfl rfl dJ7_fill_53178_5 (B_iload 0 rfl rfl dJ7_fill_53178_6 (B_ge (tgt := 20) dJ7_fill_53178_7 (by decide) (fun _ => ?_) (fun q => absurd (by decide) q)))
        exact B_ret rfl (by decide) (by decide) dJ7_fill_53178_20
      | succ d ih =>
        intro i hi
        have h1 : ∀ i : Nat, i < 15 → ¬ ((15 : Int32) ≤ Int32.ofNat i) ∧ vp_in (Int32.ofNat i) 15 ∧ Int32.ofNat i + Int32.ofInt 1 = Int32.ofNat (i + 1) := by
          intro i hi
          refine ⟨?_, vp_in_iff.mpr ?_, ?_⟩
          · have e : ∀ i : Nat, i < 15 → ¬ ((15 : Int32) ≤ Int32.ofNat i) := by decide +kernel
            exact e i hi
          · have e : ∀ i : Nat, i < 15 → 0 ≤ (Int32.ofNat i).toInt ∧ (Int32.ofNat i).toInt < ((15 : Nat) : Int) := by decide +kernel
            exact e i hi
          · have e : ∀ i : Nat, i < 15 → Int32.ofNat i + Int32.ofInt 1 = Int32.ofNat (i + 1) := by decide +kernel
            exact e i hi
        obtain ⟨n1, n2, n3⟩ := h1 i (by omega)
        refine B_iload 1 rfl rfl dJ7_fill_53178_5 (B_iload 0 rfl rfl dJ7_fill_53178_6 (B_ge (tgt := 20) dJ7_fill_53178_7 (by decide) (fun q => absurd q n1) (fun _ => ?_)))
        refine B_aload 2 rfl rfl dJ7_fill_53178_10 (B_iload 1 rfl rfl dJ7_fill_53178_11 (B_iload 3 rfl rfl dJ7_fill_53178_12 ?_))
        refine B_iast (n := 15) (f := onesF i) 0 rfl List.mem_cons_self n2 dJ7_fill_53178_13 ?_
        rw [ones_up (by omega)]
        refine B_iinc (y := Int32.ofNat (i + 1)) 1 rfl n3 (by decide) rfl dJ7_fill_53178_14 ?_
        refine B_goto (tgt := 5) dJ7_fill_53178_17 (by decide) ?_
        exact B_sub [1, 0, 2, 3] rfl (ih (i + 1) (by omega))
    refine B_iconst (v := 0) (by decide) dJ7_fill_53178_0 (B_istore rfl (by decide) rfl dJ7_fill_53178_1 ?_)
    refine B_aload 1 rfl rfl dJ7_fill_53178_2 (B_alen (n := 15) (v := 15) (x := (15, .inl (onesF 0))) 0 rfl List.mem_cons_self (by decide) dJ7_fill_53178_3 (B_istore rfl (by decide) rfl dJ7_fill_53178_4 ?_))
    exact loop 15 0 rfl
  refine Met.ofW (cc := mJ7_fill_53178.2.1) (maxL := 4) (ret := none) (by decide) rfl ?_
  intro p e s m args below meth c s₁ B hml hv
  obtain ⟨rfl, hsz, hP, hK, hD0, hY, hN⟩ := hv
  have hts := atoms_spec (ws := wsM mJ7_fill_53178) B.pre
  subst hsz
  have hD := hD0.self (sz := s.heap.size)
  have hl := lv_entry ([.ref a, .int 1]) (n := 4) (Nat.le_of_ble_eq_true rfl)
  rw [lg_entry_eq]
  generalize (lg_sl ([.ref a, .int 1]) ++ List.replicate (4 - (lg_sl ([.ref a, .int 1])).length) Slot.unset).toArray = ls at hl ⊢
  have hl : lv_has ls 4 [(0, .ref a), (1, .int 1)] := hl
  have hr := B.returns
  refine body p e s m _ below meth c (va_A [(a, prA Y 0)] s.heap.size) _ ⟨B.exec, B.bytes, hml, hr, findClass_of_methodNamed B.named, fun w hw => hts w (List.mem_cons_of_mem _ hw), fun q => absurd q (by decide), fun q hq => Or.inr hq, hY, hN⟩ ?_ s.heap [] ls hP hK hD va_S.rf hl
  intro ks' ws' H' locs' pc' ls' ck' cs' hF hck hcs hP' hK' hD' hS' hd
  subst hF
  refine W.widen hck hcs ?_
  exact W.vret B.exec B.bytes hr (fun t ht hW => ⟨⟨(), rfl, trivial, by rw [ht]; exact hP', hD'⟩, hS'.F ht⟩) hS'.2.2 hd
section BROWS3
variable {l : Launch} {D : va_G} {Y : Nat → ClassId} {M : MI} {pc : Nat} {L : List (Nat × Value)} {st : List Value} {ks : List Nat} {ws : va_W} {ck cs : Nat} {F : List Nat → va_W → Prop}
/-- the cells in another order -/
theorem B_perm {ws' : va_W} (is : List Nat) (hn : va_nd is = true) (hs : is.map (fun i => ws[i]?) = ws'.map some) (hf : is.filterMap (fun i => ws[i]?) = ws') (k : BB l D Y M pc L st ks ws' ck cs F) : BB l D Y M pc L st ks ws ck cs F := by
  intro p e s m args below meth c A Z C hz H locs ls hP hK hD hS hl
  exact k p e s m args below meth c A Z C hz H locs ls (hP.sub is hf) hK (hD.sub is hn hs) hS hl
theorem B_fill {a idx : Nat} (h0 : 0 ∈ ks) (hl0 : Cond.methodLink M.1.cls idx yJ7_fill_53178 ∈ gdT) (hR : mJ7_fill_53178.2.2.2.2.frames + 1 ≤ M.2.2.2.2.frames ∧ 8 + (4 + 11) + mJ7_fill_53178.2.2.2.2.locals ≤ M.2.2.2.2.locals) (hsum : (st.map fun v => v.category).sum ≤ 8) (hck : ck ≤ M.2.2.2.2.cells) (hcs : cs ≤ M.2.2.2.2.slots) (hi : Cond.static yJ7_fill_53178 ∈ gdT) (hd : decode M.2.1 pc = .ok (.invokestatic idx, 3)) (k : BB l D Y M (pc + 3) L st ks (ws ++ [(a, prA Y 15)]) ck cs F) : BB l D Y M pc L (.int 1 :: .ref a :: st) ks (ws ++ [(a, prA Y 0)]) ck cs F := by
  intro p e s m args below meth c A Z C hz H locs ls hP hK hD hS hl
  have hA := C.2.2.2.2.2.2.2.1
  have hPc : va_P D vwCl [(a, prA Y 0)] H := hP.sub [ws.length] (by simp)
  have hDc : va_D A [(a, prA Y 0)] := hD.sub [ws.length] rfl (by simp)
  have hKc : VK D Y [0] s := hK.mem fun k hk => by rw [List.mem_singleton.mp hk]; exact h0
  have hFc := va_free (wc := [(a, prA Y 0)]) hD hS hA [ws.length] (by simp)
  have hts := C.2.2.2.2.2.1
  have hok := ok_J7_fill_53178
  refine va_callv (va_runS (As := [.ref a, .int 1]) (rest := st) ⟨C.1, C.2.1, C.2.2.1, C.2.2.2.2.1, hts⟩ (fill_met l D Y a H.size) ⟨callB_of 2 hts hok.good rfl hok.2.2.2.1 hok.2.2.2.2 (hts _ hok.2.1) (hts _ hl0) hok.2.2.1 hR, hts _ hi⟩ ⟨fun a U g mk q => by obtain ⟨q0, q1, qP, qK, qD, qY, qN⟩ := q; exact ⟨q0, q1, qP, va_K.moved (u := U) (U := U.calling g mk a) (Vm.Alike.refl U.vm) qK, qD, tyOK.moved (u := U) (U := U.calling g mk a) (Vm.Alike.refl U.vm) qY, NST.warm (s := U) (U := U.calling g mk a) (State.WarmedH.refl U) qN⟩, fun U hU hW => ⟨rfl, by rw [hU], by rw [hU]; exact hPc, va_K.moved hW.alike hKc, hDc.weaken (fun _ _ _ _ => trivial), tyOK.moved hW.alike C.2.2.2.2.2.2.2.2.1, NST.warm hW C.2.2.2.2.2.2.2.2.2⟩⟩ rfl rfl hl.1 rfl (lv_room hsum) hd ⟨hck, hcs⟩) hS (fun x _ h => hFc x h) hFc (fun u t H1 locs1 ht hvm _ hB hz1 hk1 hS1 => ?_)
  obtain ⟨hP1, hD1⟩ := hB
  rw [ht] at hP1
  obtain ⟨hP2, hD2⟩ := back_join hP hD hFc hk1 hP1 hD1
  exact k p e s m args below meth c A Z C hz H1 locs1 ls hP2 hK hD2 hS1 hl
end BROWS3
