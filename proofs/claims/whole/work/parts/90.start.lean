/-! THE START -/
def A0 : AS := ((0, fun _ _ => 0), (fun _ => 1), ((fun _ => 0), 0), [], [])
theorem A0_ok : okA A0 := ⟨⟨Nat.zero_le _, fun t ht => absurd ht (Nat.not_lt_zero t), fun t ht => absurd ht (Nat.not_lt_zero t), fun a b ha => absurd ha (Nat.not_lt_zero a), fun t ht => absurd ht (Nat.not_lt_zero t)⟩, fun w _ => ⟨by show (1 : Int) ≤ 1; decide, by show (1 : Int) ≤ 9; decide⟩, ⟨Nat.zero_le _, fun L hL => by cases hL⟩, ⟨Nat.zero_le _, fun t ht => by cases ht⟩⟩
theorem sg0_p {c : Nat} (h : c = 11 ∨ c = 76) {w : Nat} (hw : w < 15) : sg0 c w = 1 := by
  unfold sg0
  rw [if_neg (by omega), if_neg (by omega), if_pos ⟨h, hw⟩]
theorem invC0 : InvC CKK A0 0 sg0 := by
  refine ⟨⟨rfl, Nat.zero_le _, fun r t _ ht => absurd ht (Nat.not_lt_zero t)⟩, fun t _ _ => ⟨sg0_z (by decide) t, sg0_z (by decide) t, sg0_z (by decide) t⟩, rfl, fun w hw => sg0_p (Or.inl rfl) hw, ⟨rfl, Nat.zero_le _, fun i hi => absurd hi (Nat.not_lt_zero i)⟩, ⟨rfl, fun k hk => absurd hk (Nat.not_lt_zero k)⟩, ⟨rfl, fun k hk => absurd hk (Nat.not_lt_zero k)⟩, ⟨by decide, by decide⟩, by decide, by decide, fun h => absurd h (by decide), fun h => absurd h (by decide)⟩
theorem invM0 : InvM A0 sg0 := by
  refine ⟨⟨rfl, Nat.zero_le _, fun t ht => absurd ht (Nat.not_lt_zero t)⟩, fun t _ _ => ⟨sg0_z (by decide) t, sg0_z (by decide) t⟩, fun w hw => sg0_p (Or.inr rfl) hw, ⟨rfl, Nat.zero_le _, fun i hi => absurd hi (Nat.not_lt_zero i)⟩, ⟨rfl, fun k hk => absurd hk (Nat.not_lt_zero k)⟩, ⟨rfl, fun k hk => absurd hk (Nat.not_lt_zero k)⟩⟩
theorem rng0 : Rng sg0 := by
  have h : ∀ c k, -1 ≤ sg0 c k ∧ sg0 c k ≤ 1 := fun c k => by
    unfold sg0
    split
    · decide
    · split
      · decide
      · split <;> decide
  exact ⟨fun c k _ => by have := h c k; omega, by have := h 69 12; omega⟩
theorem kn_all {s : State} {args : Array Value} (hg : ∀ w ∈ gdT, w.before args s = true) : ∀ k : Nat, ∃ q : ClassId × (Nat → Nat), ∀ r : vw_C, vwCl[k]? = some r → u_Kn s r.1 r.2.1 r.2.2 q.1 q.2 := by
  intro k
  by_cases hk : k < 11
  · rcases (show k = 0 ∨ k = 1 ∨ k = 2 ∨ k = 3 ∨ k = 4 ∨ k = 5 ∨ k = 6 ∨ k = 7 ∨ k = 8 ∨ k = 9 ∨ k = 10 by omega) with rfl | rfl | rfl | rfl | rfl | rfl | rfl | rfl | rfl | rfl | rfl
    · obtain ⟨c0, i0, h0⟩ := u_known (C := RX0) (T := TX0) (N := 5) (n := 5) hg ci_X0.2.2.1 (hg (.instantiable RX0 5) (gm_1 154 rfl rfl))
      exact ⟨(c0, i0), fun r hr => by cases hr; exact h0⟩
    · obtain ⟨c0, i0, h0⟩ := u_known (C := RX1) (T := TX1) (N := 4) (n := 4) hg ci_X1.2.2.1 (hg (.instantiable RX1 4) (gm_1 200 rfl rfl))
      exact ⟨(c0, i0), fun r hr => by cases hr; exact h0⟩
    · obtain ⟨c0, i0, h0⟩ := u_known (C := RX2) (T := TX2) (N := 3) (n := 3) hg ci_X2.2.2.1 (hg (.instantiable RX2 3) (gm_1 220 rfl rfl))
      exact ⟨(c0, i0), fun r hr => by cases hr; exact h0⟩
    · obtain ⟨c0, i0, h0⟩ := u_known (C := RX4) (T := TX4) (N := 3) (n := 3) hg ci_X4.2.2.1 (hg (.instantiable RX4 3) (gm_1 64 rfl rfl))
      exact ⟨(c0, i0), fun r hr => by cases hr; exact h0⟩
    · obtain ⟨c0, i0, h0⟩ := u_known (C := RX5) (T := TX5) (N := 3) (n := 3) hg ci_X5.2.2.1 (hg (.instantiable RX5 3) (gm_1 31 rfl rfl))
      exact ⟨(c0, i0), fun r hr => by cases hr; exact h0⟩
    · obtain ⟨c0, i0, h0⟩ := u_known (C := RX6) (T := TX6) (N := 2) (n := 2) hg ci_X6.2.2.1 (hg (.instantiable RX6 2) (gm_1 239 rfl rfl))
      exact ⟨(c0, i0), fun r hr => by cases hr; exact h0⟩
    · obtain ⟨c0, i0, h0⟩ := u_known (C := RX7) (T := TX7) (N := 5) (n := 5) hg ci_X7.2.2.1 (hg (.instantiable RX7 5) (gm_1 58 rfl rfl))
      exact ⟨(c0, i0), fun r hr => by cases hr; exact h0⟩
    · obtain ⟨c0, i0, h0⟩ := u_known (C := RX8) (T := TX8) (N := 3) (n := 3) hg ci_X8.2.2.1 (hg (.instantiable RX8 3) (gm_1 182 rfl rfl))
      exact ⟨(c0, i0), fun r hr => by cases hr; exact h0⟩
    · obtain ⟨c0, i0, h0⟩ := u_known (C := RX9) (T := TX9) (N := 12) (n := 12) hg ci_X9.2.2.1 (hg (.instantiable RX9 12) (gm_1 105 rfl rfl))
      exact ⟨(c0, i0), fun r hr => by cases hr; exact h0⟩
    · obtain ⟨c0, i0, h0⟩ := u_known (C := RX11) (T := TX11) (N := 12) (n := 12) hg ci_X11.2.2.1 (hg (.instantiable RX11 12) (gm_1 23 rfl rfl))
      exact ⟨(c0, i0), fun r hr => by cases hr; exact h0⟩
    · obtain ⟨c0, i0, h0⟩ := u_known (C := RX12) (T := TX12) (N := 41) (n := 41) hg ci_X12.2.2.1 (hg (.instantiable RX12 41) (gm_4 77 rfl rfl))
      exact ⟨(c0, i0), fun r hr => by cases hr; exact h0⟩
  · refine ⟨(0, fun _ => 0), fun r hr => ?_⟩
    rw [List.getElem?_eq_none (by show 11 ≤ k; omega)] at hr
    cases hr
theorem ty_all {s : State} {args : Array Value} (hts : ∀ w ∈ lw_tbl, w.before args s = true) : ∀ k : Nat, ∃ c : ClassId, k < 5 → s.vm.findClass (bnm k) = some c := by
  intro k
  by_cases hk : k < 5
  · rcases (show k = 0 ∨ k = 1 ∨ k = 2 ∨ k = 3 ∨ k = 4 by omega) with rfl | rfl | rfl | rfl | rfl
    · obtain ⟨c, _, _, h, _⟩ := Cond.arrayClass_spec (hts (.arrayClass .int) (tb_1 (List.mem_of_getElem? (i := 56) rfl)))
      exact ⟨c, fun _ => h⟩
    · obtain ⟨c, _, _, h, _⟩ := Cond.arrayClass_spec (hts (.arrayClass .boolean) (tb_4 (List.mem_of_getElem? (i := 206) rfl)))
      exact ⟨c, fun _ => h⟩
    · obtain ⟨c, _, _, h, _⟩ := Cond.arrayClass_spec (hts (.arrayClass .char) (tb_1 (List.mem_of_getElem? (i := 83) rfl)))
      exact ⟨c, fun _ => h⟩
    · obtain ⟨_, c, _, _, _, _, _, h⟩ := _root_.Jvm.Stand.arrayOver_specB (hts (.arrayOver (.array .int)) (tb_1 (List.mem_of_getElem? (i := 37) rfl)))
      exact ⟨c, fun _ => h⟩
    · obtain ⟨_, c, _, _, _, _, _, h⟩ := Cond.arrayOver_spec (hts (.arrayOver (.object "GreenDoor$Saying")) (tb_1 (List.mem_of_getElem? (i := 103) rfl)))
      exact ⟨c, fun _ => h⟩
  · exact ⟨0, fun h => absurd h hk⟩
theorem nst_all {s : State} {args : Array Value} (hts : ∀ w ∈ lw_tbl, w.before args s = true) : NST s := ⟨fun a i x h q => va_Nw.of rfl (hts _ q), va_AOA.of (hts (.arrayOver (.array .int)) (tb_1 (List.mem_of_getElem? (i := 37) rfl))), va_AO.of (hts (.arrayOver (.object "GreenDoor$Saying")) (tb_1 (List.mem_of_getElem? (i := 103) rfl)))⟩
set_option maxRecDepth 100000 in
set_option maxHeartbeats 4000000 in
theorem map_ad {Y : Nat → ClassId} {h0 h1 : Nat} {u v : Nat → Nat} : (WX11 Y h0 u ++ WX12 Y h1 v).map (fun q => q.1) = (List.range 99).map (adF h0 h1 u v) := rfl
theorem ad_at {Y : Nat → ClassId} {h0 h1 : Nat} {u v : Nat → Nat} {i : Nat} (hi : i < 99) : ∃ e : va_E, (WX11 Y h0 u ++ WX12 Y h1 v)[i]? = some (adF h0 h1 u v i, e) := by
  have h : ((WX11 Y h0 u ++ WX12 Y h1 v).map (fun q => q.1))[i]? = some (adF h0 h1 u v i) := by
    rw [map_ad, List.getElem?_map, List.getElem?_range hi]; rfl
  rw [List.getElem?_map] at h
  obtain ⟨q, h1, h2⟩ := Option.map_eq_some_iff.mp h
  exact ⟨q.2, by rw [h1, ← h2]⟩
set_option maxHeartbeats 8000000 in
set_option maxRecDepth 100000 in
/-- from the entry, for every script of at most 2560 ints, the law comes to its end with true -/
theorem whole_start {p : Program} {e : Env} {s : State} {m : MethodId} {below : List Frame} {meth : Method} {c : Code} (l : Launch) (hflags : l.flags = flags0) {b L : Nat} {xs : Nat → Int32} (hL : L ≤ 2560) (C0 : lw_At p s m meth c b L xs) : W p l e room_1 s m #[Value.ref b] below meth c s.heap [] 0 0 (lw_Z below #[Value.ref b] s) (entryFrame m ([Value.ref b] : List Value).toArray 4) := by
  obtain ⟨hx, hb, hr, hml, hown, hts, hX, hbl, hlocks, hgv⟩ := id C0
  have hg : ∀ w ∈ gdT, w.before #[Value.ref b] s = true := fun w hw => hts w (List.mem_filter.mp hw).1
  have hA : ∀ q : Nat, s.heap.size ≤ q → (fun q : Nat => s.heap.size ≤ q) q := fun _ h => h
  obtain ⟨dd, hdd⟩ := Classical.axiomOfChoice (kn_all hg)
  obtain ⟨Y, hY0⟩ := Classical.axiomOfChoice (ty_all hts)
  have hY : tyOK Y s := fun k hk => hY0 k hk
  have hN := nst_all hts
  obtain ⟨D, hDK⟩ : ∃ D : va_G, ∀ (k : Nat) (q : vw_C), vwCl[k]? = some q → u_Kn s q.1 q.2.1 q.2.2 (D.1 k) (D.2 k) := ⟨(fun k => (dd k).1, fun k => (dd k).2), fun k q hq => hdd k q hq⟩
  have hS : va_S (fun q : Nat => s.heap.size ≤ q) s.heap s.heap [] := va_S.rf
  have hK : va_K D vwCl [] s := ⟨hDK, fun k q h => by simp at h⟩
  have hP : va_P D vwCl [] s.heap := fun k q h => by simp at h
  have hD : va_D (fun q : Nat => s.heap.size ≤ q) [] := ⟨fun i j p q h => by simp at h, fun k q h => by simp at h⟩
  have hl := lv_entry ([.ref b]) (n := 4) (Nat.le_of_ble_eq_true rfl)
  rw [lg_entry_eq]
  generalize (lg_sl ([.ref b]) ++ List.replicate (4 - (lg_sl ([.ref b])).length) Slot.unset).toArray = ls at hl ⊢
  have hl : lv_has ls 4 [(0, .ref b)] := hl
  have call : ∀ (M' : MI) (ci' : Nat) (fs' : List Value) (ks' : List Nat) (Wf : Nat → (Nat → Nat) → va_W), CtB l D Y M' ci' fs' ks' Wf → ∀ (w0 : va_W) (q0 idx pc ck cs : Nat) (H : Heap) (locs : List Loc) (ls : Array Slot), va_P D vwCl (w0 ++ [(q0, .inr (ci', fs'))]) H → va_D (fun q : Nat => s.heap.size ≤ q) (w0 ++ [(q0, (.inr (ci', fs') : va_E))]) → va_S (fun q : Nat => s.heap.size ≤ q) s.heap H locs → Cond.code M'.1 M'.2.1 M'.2.2.1 M'.2.2.2.1 ∈ gdT → Cond.initialized M'.1.cls ∈ gdT → Cond.instanceMethod M'.1 ∈ gdT → (M'.1.cls ≠ "java/lang/invoke/MethodHandle" ∧ M'.1.cls ≠ "java/lang/invoke/VarHandle" ∧ (parseMethodDescriptor M'.1.desc).map (fun d => d.parameters.length) = some 0) → M'.2.2.2.1 = none → M'.1.name = "<init>" → Cond.methodLink R_law idx M'.1 ∈ gdT → (M'.2.2.2.2.frames + 1 ≤ room_1.frames ∧ 8 + (M'.2.2.1 + 11) + M'.2.2.2.2.locals ≤ room_1.locals) → ls.size = 4 → ck + M'.2.2.2.2.cells ≤ room_1.cells → cs + M'.2.2.2.2.slots ≤ room_1.slots → decode code pc = .ok (.invokespecial idx, 3) → (∀ (u : Nat → Nat) (H1 : Heap) (locs1 : List Loc), va_P D vwCl (w0 ++ Wf q0 u) H1 → VK D Y ks' s → va_D (fun q : Nat => s.heap.size ≤ q) (w0 ++ Wf q0 u) → va_S (fun q : Nat => s.heap.size ≤ q) s.heap H1 locs1 → W p l e room_1 s m #[Value.ref b] below meth c H1 locs1 (ck + M'.2.2.2.2.cells) (cs + M'.2.2.2.2.slots) (lw_Z below #[Value.ref b] s) (F0 m (pc + 3) ls [.ref q0])) → W p l e room_1 s m #[Value.ref b] below meth c H locs ck cs (lw_Z below #[Value.ref b] s) (F0 m pc ls [.ref q0, .ref q0]) := by
    intro M' ci' fs' ks' Wf hc w0 q0 idx pc ck cs H locs ls hP hD hS hcode hini hinst hpl hret hnm hl0 hR hsz hck hcs hd k
    have hPc : va_P D vwCl [(q0, .inr (ci', fs'))] H := hP.sub [w0.length] (by simp)
    have hDc : va_D (fun q : Nat => s.heap.size ≤ q) [(q0, (.inr (ci', fs') : va_E))] := hD.sub [w0.length] rfl (by simp)
    have hFc := va_free (wc := [(q0, (.inr (ci', fs') : va_E))]) hD hS hA [w0.length] (by simp)
    refine va_callv (va_runI (As := []) (rest := [.ref q0]) ⟨hx, hb, hml, hown, hg⟩ (hc q0 H.size) ⟨(by rw [← hret]; exact callB_of 0 hg (good_gd hcode) rfl rfl rfl (hg _ hini) (hg _ hl0) hpl hR), hnm, hg _ hinst⟩ ⟨fun a U g mk q => by obtain ⟨q0, q1, qP, qK, qD, qY, qN⟩ := q; exact ⟨q0, q1, qP, va_K.moved (u := U) (U := U.calling g mk a) (Vm.Alike.refl U.vm) qK, qD, tyOK.moved (u := U) (U := U.calling g mk a) (Vm.Alike.refl U.vm) qY, NST.warm (s := U) (U := U.calling g mk a) (State.WarmedH.refl U) qN⟩, fun U hU hW => ⟨rfl, by rw [hU], by rw [hU]; exact hPc, va_K.moved hW.alike hK, hDc.weaken (fun _ _ _ _ => trivial), tyOK.moved hW.alike hY, NST.warm hW hN⟩⟩ rfl rfl hsz rfl (lv_room (Nat.le_of_ble_eq_true rfl)) hd ⟨hck, hcs⟩) hS (fun x _ h => hFc x h) hFc (fun u t H1 locs1 ht hvm _ hB hz1 hk1 hS1 => ?_)
    obtain ⟨hP1, hK1, hD1⟩ := hB
    rw [ht] at hP1
    obtain ⟨hP2, hD2⟩ := back_join hP hD hFc hk1 hP1 hD1
    exact k u H1 locs1 hP2 (va_K.moved hvm.symm hK1) hD2 hS1
  refine va_new (ci := 9) (fs := dfsX11) (C := RX11) (T := TX11) (N := 12) hx hb hg ci_X11.2.2.1 tyX11 tyX11_ok hown (hg (.classLink R_law 7 RX11) (gm_1 22 rfl rfl)) (hg (.instantiable RX11 12) (gm_1 23 rfl rfl)) (hg (.initialized RX11) (gm_1 1 rfl rfl)) hK hP hD hS hA rfl dfsX11_ok (Nat.le_of_ble_eq_true rfl) (Nat.le_of_ble_eq_true rfl) dL_law_0 (fun h0 H hP hD hS => ?_)
  refine lv_dup hx hb dL_law_3 rfl ?_
  refine call mX11_init 9 dfsX11 [0, 2, 3, 4] (WX11 Y) (ct_X11 l D Y) [] h0 9 4 _ _ H _ ls hP hD hS (gm_1 26 rfl rfl) (gm_1 1 rfl rfl) (gm_1 25 rfl rfl) ⟨by decide +kernel, by decide +kernel, by decide +kernel⟩ rfl rfl (gm_1 24 rfl rfl) ⟨Nat.le_of_ble_eq_true rfl, Nat.le_of_ble_eq_true rfl⟩ hl.1 (Nat.le_of_ble_eq_true rfl) (Nat.le_of_ble_eq_true rfl) dL_law_4 (fun u H1 locs1 hP1 hK1 hD1 hS1 => ?_)
  refine lv_astore_n (lv' := [(1, .ref h0), (0, .ref b)]) hx hb dL_law_7 rfl hl (by decide) rfl (fun ls hl => ?_)
  refine va_new (ci := 10) (fs := dfsX12) (C := RX12) (T := TX12) (N := 41) hx hb hg ci_X12.2.2.1 tyX12 tyX12_ok hown (hg (.classLink R_law 10 RX12) (gm_4 76 rfl rfl)) (hg (.instantiable RX12 41) (gm_4 77 rfl rfl)) (hg (.initialized RX12) (gm_1 12 rfl rfl)) hK hP1 hD1 hS1 hA rfl dfsX12_ok (Nat.le_of_ble_eq_true rfl) (Nat.le_of_ble_eq_true rfl) dL_law_8 (fun h1 H2 hP2 hD2 hS2 => ?_)
  refine lv_dup hx hb dL_law_11 rfl ?_
  refine call mX12_init 10 dfsX12 [0, 1] (WX12 Y) (ct_X12 l D Y) (WX11 Y h0 u) h1 12 12 _ _ H2 _ ls hP2 hD2 hS2 (gm_4 80 rfl rfl) (gm_1 12 rfl rfl) (gm_4 79 rfl rfl) ⟨by decide +kernel, by decide +kernel, by decide +kernel⟩ rfl rfl (gm_4 78 rfl rfl) ⟨Nat.le_of_ble_eq_true rfl, Nat.le_of_ble_eq_true rfl⟩ hl.1 (Nat.le_of_ble_eq_true rfl) (Nat.le_of_ble_eq_true rfl) dL_law_12 (fun v H3 locs3 hP3 hK3 hD3 hS3 => ?_)
  refine lv_astore_n (lv' := [(2, .ref h1), (1, .ref h0), (0, .ref b)]) hx hb dL_law_15 rfl hl (by decide) rfl (fun ls hl => ?_)
  refine lv_iconst (v := 0) hx hb dL_law_16 (by decide) ?_
  refine lv_istore_n (lv' := [(3, .int 0), (2, .ref h1), (1, .ref h0), (0, .ref b)]) hx hb dL_law_17 rfl hl (by decide) rfl (fun ls hl => ?_)
  obtain ⟨T, hT⟩ := stc_start C0 l D Y (adF h0 h1 u v)
  have hK4 : VK D Y [0, 1, 2, 3, 4] s := by
    have e : btl Y ([0, 2, 3, 4] ++ [0, 1]) = btl Y [0, 2, 3, 4] ++ btl Y [0, 1] := List.map_append
    have h5 : VK D Y ([0, 2, 3, 4] ++ [0, 1]) s := by unfold VK; rw [e]; exact va_K.app hK1 hK3
    exact h5.mem (by decide)
  have hDX : DX (l, D, Y, adF h0 h1 u v, T, b, L, xs) := fun i j hi hj hij => by
    obtain ⟨ei, g1⟩ := ad_at (Y := Y) (h0 := h0) (h1 := h1) (u := u) (v := v) hi
    obtain ⟨ej, g2⟩ := ad_at (Y := Y) (h0 := h0) (h1 := h1) (u := u) (v := v) hj
    exact hD3.1 i j _ _ g1 g2 hij
  have hAX : ∀ q, AX (l, D, Y, adF h0 h1 u v, T, b, L, xs) q → (fun q : Nat => s.heap.size ≤ q) q := fun q hq => by
    obtain ⟨i, hi, rfl⟩ := hq
    obtain ⟨ei, g1⟩ := ad_at (Y := Y) (h0 := h0) (h1 := h1) (u := u) (v := v) hi
    exact hD3.2 i _ g1
  have hW : World (l, D, Y, adF h0 h1 u v, T, b, L, xs) sg0 s H3 := ⟨world0 hP3, hK4, hDX, rng0⟩
  have go := law_go (X := (l, D, Y, adF h0 h1 u v, T, b, L, xs)) hL 513 0 A0 sg0 (by show L < 5 * (0 + 513) + 5; omega) (Nat.zero_le _) invC0 invM0 A0_ok
  refine go p e s m #[Value.ref b] below meth c (fun q : Nat => s.heap.size ≤ q) _ _ (lw_Z below #[Value.ref b] s) ⟨hx, hb, hml, hr, hlocks, hown, hg, hAX, hT, Nat.le_of_ble_eq_true rfl, Nat.le_of_ble_eq_true rfl⟩ ?_ H3 _ ls hW hS3 (lv_sub hl [3, 2, 1, 0] rfl)
  intro r σ' H' locs' pc' ls' hr1 hW' hS' hok
  subst hr1
  refine va_forget (fun q hq => hS'.2.2 q hq) ?_
  refine W.widen (k := 600000) (n := 7302250) (Nat.le_of_ble_eq_true rfl) (Nat.le_of_ble_eq_true rfl) ?_
  exact lw_ret hx hb hr hlocks hok.1
