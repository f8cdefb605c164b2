/-! the class's reach -/
theorem AI_pos2 {S : Sc} {Z : AT} {s : Nat} (h8 : S.1 ≤ 8) (h : AI S Z) (hsD : s ∉ Z.1) (hsc : (Z.2.2.1 s).1 < 1000) : ∃ l1 l2, Z.2.1 = l1 ++ l2 ∧ insW Z.2.1 Z.2.2.1 s Z.2.1 = l1 ++ s :: l2 ∧ s ∉ l1 ++ l2 ∧ (∀ o, o ∈ l1 → k2 Z.2.1 (Z.2.2.1 o) < k2 Z.2.1 (Z.2.2.1 s)) ∧ (∀ o, o ∈ l2 → k2 Z.2.1 (Z.2.2.1 s) < k2 Z.2.1 (Z.2.2.1 o)) ∧ Z.2.1.Nodup := by
  obtain ⟨l1, l2, hR, hR', hl1, hl2⟩ := insW_is Z.2.1 Z.2.2.1 s Z.2.1
  have hsR : s ∉ Z.2.1 := fun z => hsD ((h.mem s).mp z)
  have hR2 : Z.2.1.length ≤ 256 := by have := h.small h8; have := h.rlen; omega
  have ne : ∀ o, o ∈ Z.2.1 → k2 Z.2.1 (Z.2.2.1 s) ≠ k2 Z.2.1 (Z.2.2.1 o) := fun o ho e => by
    have sh : ∀ w : WT, shpT Z.2.1 w → shpT Z.2.1 (0, w.2) := fun w hw => hw
    have := ky_inj hR2 (sh _ (h.way s).1) (sh _ (h.way o).1) e
    have e2 : (Z.2.2.1 s).2 = (Z.2.2.1 o).2 := (Prod.mk.inj this).2
    have t1 := (h.tg s hsc).1
    have t2 := (h.tg o (h.fin o ((h.mem o).mp ho))).1
    rw [tgt_2 e2, ← t2] at t1
    exact hsR (t1 ▸ ho)
  have sr := h.srt
  have nd : Z.2.1.Nodup := sr.imp fun {a b} hab e => by rw [e] at hab; omega
  refine ⟨l1, l2, hR, hR', by rw [← hR]; exact hsR, hl1, ?_, nd⟩
  rw [hR] at sr
  have sr2 := (List.pairwise_append.mp sr).2.1
  cases hl : l2 with
  | nil => intro o ho; exact absurd ho List.not_mem_nil
  | cons x xs =>
    rw [hl] at sr2 hl2
    have a := hl2 x rfl
    have b := ne x (by rw [hR, hl]; simp)
    intro o ho
    rcases List.mem_cons.mp ho with rfl | ho
    · omega
    · have := (List.pairwise_cons.mp sr2).1 o ho
      rw [← hl, ← hR] at this
      omega
theorem insW_congr {R : List Nat} {W W' : Nat → WT} {s : Nat} (hs : W s = W' s) : ∀ l : List Nat, (∀ o, o ∈ l → W o = W' o) → insW R W s l = insW R W' s l
  | [], _ => rfl
  | o :: rs, h => by
    show (if k2 R (W o) < k2 R (W s) then o :: insW R W s rs else s :: o :: rs) = (if k2 R (W' o) < k2 R (W' s) then o :: insW R W' s rs else s :: o :: rs)
    rw [hs, h o List.mem_cons_self, insW_congr hs rs fun u hu => h u (List.mem_cons_of_mem _ hu)]
theorem getD_a1 {l1 l2 : List Nat} {i : Nat} (h : i < l1.length) : (l1 ++ l2).getD i 0 = l1.getD i 0 := by
  rw [List.getD_eq_getElem?_getD, List.getD_eq_getElem?_getD, List.getElem?_append_left h]
theorem getD_a2 {l1 l2 : List Nat} {i : Nat} (h : l1.length ≤ i) : (l1 ++ l2).getD i 0 = l2.getD (i - l1.length) 0 := by
  rw [List.getD_eq_getElem?_getD, List.getD_eq_getElem?_getD, List.getElem?_append_right h]
theorem rk_getD {R : List Nat} {i : Nat} (hn : R.Nodup) (hi : i < R.length) : rkF R (R.getD i 0) = i := by
  rw [List.getD_eq_getElem?_getD, List.getElem?_eq_getElem hi]
  exact hn.idxOf_getElem i hi
theorem getD_rk {R : List Nat} {x : Nat} (hx : x ∈ R) : R.getD (rkF R x) 0 = x := by
  have a := List.idxOf_lt_length_of_mem hx
  unfold rkF
  rw [List.getD_eq_getElem?_getD, List.getElem?_eq_getElem a]
  exact List.getElem_idxOf a
theorem getD_in {R : List Nat} {i : Nat} (hi : i < R.length) : R.getD i 0 ∈ R := by
  rw [List.getD_eq_getElem?_getD, List.getElem?_eq_getElem hi]
  exact List.getElem_mem hi
def stZ (Y : AT) (s : Nat) : AT := (Y.1 ++ [s], insW Y.2.1 Y.2.2.1 s Y.2.1, Y.2.2.1, fun x => if x = s then lenW Y.2.2.2 (Y.2.2.1 s) else Y.2.2.2 x)
/-- where the rest begins when a set is put in at r -/
theorem split_at (R : List Nat) (r : Nat) (h : r ≤ R.length) : R.take r ++ R.drop r = R ∧ (R.take r).length = r := ⟨List.take_append_drop r R, by rw [List.length_take]; omega⟩
theorem s_reach {X : Cx} {c0 : Nat} {Y : AT} {σ : Sg} {Q : Int → Sg → Prop} {s : Nat} {l1 l2 : List Nat} (hw : isW c0) (hY : okZ Y) (hs : srC c0 Y σ) (hl : Y.2.1.length = Y.1.length) (hl2 : Y.1.length < 256) (hs256 : s < 256) (hsD : s ∉ Y.1) (hsc : (Y.2.2.1 s).1 < 1000) (hR : Y.2.1 = l1 ++ l2) (hR' : insW Y.2.1 Y.2.2.1 s Y.2.1 = l1 ++ s :: l2) (hsl : s ∉ l1 ++ l2) (hb : ∀ o, o ∈ l1 → k2 Y.2.1 (Y.2.2.1 o) < k2 Y.2.1 (Y.2.2.1 s)) (ha : ∀ o, o ∈ l2 → k2 Y.2.1 (Y.2.2.1 s) < k2 Y.2.1 (Y.2.2.1 o)) (hnd : Y.2.1.Nodup) (hlen : ∀ x, x ∈ Y.1 → Y.2.2.2 x < 1000) (K : ∀ σ', frY c0 σ σ' → (∀ k, k ≠ 6 → σ' c0 k = σ c0 k) → srC c0 (stZ Y s) σ' → Q 0 σ') : KX9_reach X c0 s σ Q := by
  have hg := isW_ge hw
  have hway := hw.way
  obtain ⟨hx1, hx2, hx3, hx4⟩ := hs
  have wsh := (hY.2.2.2.1 s).1
  have w256 := shp_256 hY wsh
  have wp := wy_parts wsh.1 w256.1 w256.2
  have sy := (hx1 s hs256).2.2.2 hsc
  have memR : ∀ x, x ∈ Y.2.1 → x ∈ Y.1 := fun x hx => (hY.2.1 x).mp hx
  have r256 : ∀ x, x ∈ Y.2.1 → x < 256 := fun x hx => hY.2.2.1 x (memR x hx)
  have hsR : s ∉ Y.2.1 := by rw [hR]; exact hsl
  have hl1 : l1.length ≤ Y.2.1.length := by rw [hR, List.length_append]; omega
  have pD : (0 < prt ((Y.2.2.1 s).2.1 / 8) → (Y.2.2.1 s).2.2.1 ∈ Y.1) ∧ (1 < prt ((Y.2.2.1 s).2.1 / 8) → (Y.2.2.1 s).2.2.2 ∈ Y.1) := by
    rcases prt_3 ((Y.2.2.1 s).2.1 / 8) with p | p | p
    · exact ⟨fun z => by omega, fun z => by omega⟩
    · exact ⟨fun _ => memR _ (wsh.2.2.1 p).1, fun z => by omega⟩
    · exact ⟨fun _ => memR _ (wsh.2.2.2 p).1, fun _ => memR _ (wsh.2.2.2 p).2⟩
  -- the end: it is put in
  have fin : ∀ σ1 : Sg, frY c0 σ σ1 → (∀ k, k ≠ 6 → σ1 c0 k = σ c0 k) → σ1 c0 6 = σ c0 6 → (∀ c k, c = c0 + 1 ∨ c = c0 + 3 ∨ c = c0 + 6 → σ1 c k = σ c k) → (∀ x, x < 256 → σ1 (c0 + 2) x = (if x = s then (lenW Y.2.2.2 (Y.2.2.1 s) : Int) else σ (c0 + 2) x)) → (∀ i, i < l1.length → σ1 (c0 + 5) i = ((Y.2.1.getD i 0 : Nat) : Int)) → (∀ i, l1.length < i → i ≤ Y.2.1.length → σ1 (c0 + 5) i = ((Y.2.1.getD (i - 1) 0 : Nat) : Int)) → (∀ x, x ∈ Y.2.1 → σ1 (c0 + 4) x = (if rkF Y.2.1 x < l1.length then (rkF Y.2.1 x : Int) else (rkF Y.2.1 x : Int) + 1)) → (∀ x, x < 256 → x ∉ Y.2.1 → σ1 (c0 + 4) x = -1) → ∀ v2 v3 : Int, GX9_reach_162 X c0 s v2 v3 l1.length σ1 Q := by
    intro σ1 f1 g1 e6 fc f2 b1 b2 r1 r2 v2 v3
    have e6' : σ1 c0 6 = (Y.1.length : Int) := by rw [e6]; exact hx4
    refine rX9_reach_162 hway fun _ => ?_
    rw [show ((l1.length : Int).toNat) = l1.length from rfl, show ((s : Int).toNat) = s from rfl, show (up2 (up2 σ1 (c0 + 5) l1.length s) (c0 + 4) s l1.length) c0 6 = (Y.1.length : Int) by rw [up2_nc _ _ (by omega), up2_nc _ _ (by omega)]; exact e6', show ((Y.1.length : Int).toNat) = Y.1.length from rfl]
    refine ⟨by omega, by omega, by omega, by omega, by omega, by omega, by omega, K _ (fun c k y1 y2 => ?_) (fun k hk => ?_) ⟨fun x hx => ?_, fun i hi => ?_, fun i hi => ?_, ?_⟩⟩
    · rw [up2_a _ _ (by omega), up2_a _ _ (by omega), up2_a _ _ (by omega), up2_a _ _ (by omega)]; exact f1 c k y1 y2
    · rw [up2_nc _ _ (by omega), up2_nk _ _ hk, up2_nc _ _ (by omega), up2_nc _ _ (by omega)]; exact g1 k hk
    · have q := hx1 x hx
      rw [up2_nc _ _ (show c0 + 2 ≠ c0 + 6 by omega), up2_nc _ _ (show c0 + 2 ≠ c0 by omega), up2_nc _ _ (show c0 + 2 ≠ c0 + 4 by omega), up2_nc _ _ (show c0 + 2 ≠ c0 + 5 by omega), up2_nc _ _ (show c0 + 4 ≠ c0 + 6 by omega), up2_nc _ _ (show c0 + 4 ≠ c0 by omega), up2_nc _ _ (show c0 + 1 ≠ c0 + 6 by omega), up2_nc _ _ (show c0 + 1 ≠ c0 by omega), up2_nc _ _ (show c0 + 1 ≠ c0 + 4 by omega), up2_nc _ _ (show c0 + 1 ≠ c0 + 5 by omega), up2_nc _ _ (show c0 + 3 ≠ c0 + 6 by omega), up2_nc _ _ (show c0 + 3 ≠ c0 by omega), up2_nc _ _ (show c0 + 3 ≠ c0 + 4 by omega), up2_nc _ _ (show c0 + 3 ≠ c0 + 5 by omega), fc _ x (Or.inl rfl), fc _ x (Or.inr (Or.inl rfl)), f2 x hx]
      refine ⟨fun hm => ?_, fun hm => ?_, q.2.2⟩
      · show _ = ((if x = s then lenW Y.2.2.2 (Y.2.2.1 s) else Y.2.2.2 x : Nat) : Int) ∧ _ = ((rkF (insW Y.2.1 Y.2.2.1 s Y.2.1) x : Nat) : Int)
        rw [hR']
        by_cases e : x = s
        · rw [if_pos e, if_pos e, e, up2_s, rk_ins_s (fun z => hsl (List.mem_append.mpr (Or.inl z)))]
          exact ⟨rfl, rfl⟩
        · have m : x ∈ Y.1 := by
            rcases List.mem_append.mp (show x ∈ Y.1 ++ [s] from hm) with m | m
            · exact m
            · exact absurd (List.mem_singleton.mp m) e
          have mR := (hY.2.1 x).mpr m
          rw [if_neg e, if_neg e, up2_nk _ _ e, up2_nc _ _ (show c0 + 4 ≠ c0 + 5 by omega), r1 x mR, rk_ins e, ← hR]
          refine ⟨(q.1 m).1, ?_⟩
          split <;> omega
      · have e : x ≠ s := fun e => hm (List.mem_append.mpr (Or.inr (by rw [e]; exact List.mem_singleton.mpr rfl)))
        have m : x ∉ Y.1 := fun z => hm (List.mem_append.mpr (Or.inl z))
        rw [up2_nk _ _ e, up2_nc _ _ (show c0 + 4 ≠ c0 + 5 by omega)]
        exact r2 x hx fun z => m (memR x z)
    · have hi : i < (insW Y.2.1 Y.2.2.1 s Y.2.1).length := hi
      show _ = (((insW Y.2.1 Y.2.2.1 s Y.2.1).getD i 0 : Nat) : Int)
      rw [hR'] at hi ⊢
      have hi2 : i ≤ Y.2.1.length := by rw [hR, List.length_append]; rw [List.length_append, List.length_cons] at hi; omega
      rw [up2_nc _ _ (show c0 + 5 ≠ c0 + 6 by omega), up2_nc _ _ (show c0 + 5 ≠ c0 by omega), up2_nc _ _ (show c0 + 5 ≠ c0 + 4 by omega)]
      rcases Nat.lt_trichotomy i l1.length with c | c | c
      · rw [up2_nk _ _ (show i ≠ l1.length by omega), b1 i c, hR, getD_a1 c, getD_a1 c]
      · rw [c, up2_s, getD_a2 (Nat.le_refl _), Nat.sub_self]; rfl
      · rw [up2_nk _ _ (show i ≠ l1.length by omega), b2 i c hi2, hR, getD_a2 (by omega), getD_a2 (by omega), show i - l1.length = (i - 1 - l1.length) + 1 by omega]; rfl
    · have hi : i < (Y.1 ++ [s]).length := hi
      show _ = (((Y.1 ++ [s]).getD i 0 : Nat) : Int)
      rw [List.length_append, List.length_singleton] at hi
      by_cases e : i = Y.1.length
      · rw [e, up2_s, getD_a2 (Nat.le_refl _), Nat.sub_self]; rfl
      · rw [up2_nk _ _ e, up2_nc _ _ (show c0 + 6 ≠ c0 by omega), up2_nc _ _ (show c0 + 6 ≠ c0 + 4 by omega), up2_nc _ _ (show c0 + 6 ≠ c0 + 5 by omega), fc _ i (Or.inr (Or.inr rfl)), getD_a1 (by omega)]
        exact hx3 i (by omega)
    · rw [up2_nc _ _ (show c0 ≠ c0 + 6 by omega), up2_s]
      show _ = (((Y.1 ++ [s]).length : Nat) : Int)
      rw [List.length_append, List.length_singleton]; omega
  -- those behind it move
  have loop : ∀ d r : Nat, r = l1.length + d → r ≤ Y.2.1.length → ∀ σ1 : Sg, frY c0 σ σ1 → (∀ k, k ≠ 6 → σ1 c0 k = σ c0 k) → σ1 c0 6 = σ c0 6 → (∀ c k, c = c0 + 1 ∨ c = c0 + 3 ∨ c = c0 + 6 → σ1 c k = σ c k) → (∀ x, x < 256 → σ1 (c0 + 2) x = (if x = s then (lenW Y.2.2.2 (Y.2.2.1 s) : Int) else σ (c0 + 2) x)) → (∀ i, i < r → σ1 (c0 + 5) i = ((Y.2.1.getD i 0 : Nat) : Int)) → (∀ i, r < i → i ≤ Y.2.1.length → σ1 (c0 + 5) i = ((Y.2.1.getD (i - 1) 0 : Nat) : Int)) → (∀ x, x ∈ Y.2.1 → σ1 (c0 + 4) x = (if rkF Y.2.1 x < r then (rkF Y.2.1 x : Int) else (rkF Y.2.1 x : Int) + 1)) → (∀ x, x < 256 → x ∉ Y.2.1 → σ1 (c0 + 4) x = -1) → ∀ v3 : Int, GX9_reach_91 X c0 s (wyI (Y.2.2.1 s)) v3 r σ1 Q := by
    intro d
    induction d with
    | zero =>
      intro r hr hr2 σ1 f1 g1 e6 fc f2 b1 b2 r1 r2 v3
      have hr : r = l1.length := by omega
      subst hr
      have done := fin σ1 f1 g1 e6 fc f2 b1 b2 r1 r2
      refine rX9_reach_91 hway fun _ => ⟨by omega, fun _ => done _ _, fun z => ?_⟩
      have m1 : l1.getD (l1.length - 1) 0 ∈ l1 := getD_in (by omega)
      have g1' : Y.2.1.getD (l1.length - 1) 0 = l1.getD (l1.length - 1) 0 := by rw [hR, getD_a1 (by omega)]
      have mR : Y.2.1.getD (l1.length - 1) 0 ∈ Y.2.1 := getD_in (by omega)
      have k1 := hb _ m1
      rw [← g1'] at k1
      have c5 := b1 (l1.length - 1) (by omega)
      generalize Y.2.1.getD (l1.length - 1) 0 = o at *
      have o256 := r256 o mR
      rw [show (((l1.length : Int) - 1).toNat) = l1.length - 1 by omega, c5, zand255 o256, show ((o : Int).toNat) = o from rfl, fc _ o (Or.inr (Or.inl rfl)), (hx1 o o256).2.2.2 (hY.2.2.2.2 o (memR o mR))]
      refine ⟨by omega, by omega, ?_⟩
      refine s_isAhead (R := l1 ++ s :: l2) (R0 := Y.2.1) hw ?_ r256 (fun x hx => ?_) wsh (hY.2.2.2.1 o).1 fun _ => ⟨?_, fun _ => done _ _, fun y => ?_⟩
      · rw [hR, List.length_append] at hl; rw [List.length_append, List.length_cons]; omega
      · have e : x ≠ s := fun e => hsR (e ▸ hx)
        rw [r1 x hx, rk_ins e, ← hR]; split <;> omega
      · split <;> decide
      · exfalso
        apply y
        rw [if_neg]
        rw [k2_keep (by rw [hR, List.length_append] at hl; rw [List.length_append]; omega) hsl (by rw [← hR]; exact wsh) (by rw [← hR]; exact (hY.2.2.2.1 o).1), ← hR]
        omega
    | succ d ih =>
      intro r hr hr2 σ1 f1 g1 e6 fc f2 b1 b2 r1 r2 v3
      have c5 := b1 (r - 1) (by omega)
      have m2 : Y.2.1.getD (r - 1) 0 ∈ l2 := by
        rw [hR, getD_a2 (by omega)]
        refine getD_in ?_
        rw [hR, List.length_append] at hr2; omega
      have mR : Y.2.1.getD (r - 1) 0 ∈ Y.2.1 := getD_in (by omega)
      have k1 := ha _ m2
      have ork := rk_getD hnd (show r - 1 < Y.2.1.length by omega)
      obtain ⟨sp, spl⟩ := split_at Y.2.1 r hr2
      generalize ho : Y.2.1.getD (r - 1) 0 = o at *
      have o256 := r256 o mR
      refine rX9_reach_91 hway fun _ => ⟨by omega, fun z => by omega, fun z => ?_⟩
      rw [show (((r : Int) - 1).toNat) = r - 1 by omega, c5, zand255 o256, show ((o : Int).toNat) = o from rfl, fc _ o (Or.inr (Or.inl rfl)), (hx1 o o256).2.2.2 (hY.2.2.2.2 o (memR o mR)), show ((r : Int).toNat) = r from rfl]
      refine ⟨by omega, by omega, ?_⟩
      refine s_isAhead (R := Y.2.1.take r ++ s :: Y.2.1.drop r) (R0 := Y.2.1) hw ?_ r256 (fun x hx => ?_) wsh (hY.2.2.2.1 o).1 fun _ => ⟨?_, fun y => ?_, fun y => ⟨by omega, by omega, by omega, ?_⟩⟩
      · rw [List.length_append, List.length_cons, List.length_drop]; omega
      · have e : x ≠ s := fun e => hsR (e ▸ hx)
        rw [r1 x hx, rk_ins e, sp, spl]; split <;> omega
      · split <;> decide
      · exfalso
        rw [if_pos] at y
        · exact absurd y (by decide)
        · rw [k2_keep (by rw [sp]; omega) (by rw [sp]; exact hsR) (by rw [sp]; exact wsh) (by rw [sp]; exact (hY.2.2.2.1 o).1), sp]
          exact k1
      · rw [up2_s, c5, zand255 o256, show ((o : Int).toNat) = o from rfl, show (r : Int) + (-1) = ((r - 1 : Nat) : Int) by omega]
        refine ⟨by omega, by omega, ih (r - 1) (by omega) (by omega) _ (fun c k y1 y2 => ?_) (fun k hk => ?_) ?_ (fun c k hc => ?_) (fun x hx => ?_) (fun i hi => ?_) (fun i hi hi2 => ?_) (fun x hx => ?_) (fun x hx hn => ?_) v3⟩
        · rw [up2_a _ _ (by omega), up2_a _ _ (by omega)]; exact f1 c k y1 y2
        · rw [up2_nc _ _ (by omega), up2_nc _ _ (by omega)]; exact g1 k hk
        · rw [up2_nc _ _ (by omega), up2_nc _ _ (by omega)]; exact e6
        · rw [up2_nc _ _ (by omega), up2_nc _ _ (by omega)]; exact fc c k hc
        · rw [up2_nc _ _ (by omega), up2_nc _ _ (by omega)]; exact f2 x hx
        · rw [up2_nc _ _ (by omega), up2_nk _ _ (by omega)]; exact b1 i (by omega)
        · rw [up2_nc _ _ (by omega)]
          by_cases e : i = r
          · rw [e, up2_s, ho]
          · rw [up2_nk _ _ e]; exact b2 i (by omega) hi2
        · by_cases e : x = o
          · rw [e, up2_s, ork, if_neg (by omega)]; omega
          · rw [up2_nk _ _ e, up2_nc _ _ (by omega), r1 x hx]
            have : rkF Y.2.1 x ≠ r - 1 := fun q => e (rkF_inj hx mR (by rw [q, ork]))
            split <;> split <;> omega
        · have e : x ≠ o := fun e => hn (e ▸ mR)
          rw [up2_nk _ _ e, up2_nc _ _ (by omega)]; exact r2 x hx hn
  have lenOK : ∀ x, x ∈ Y.1 → σ (c0 + 2) x = (Y.2.2.2 x : Int) ∧ Y.2.2.2 x < 1000 := fun x hx => ⟨((hx1 x (hY.2.2.1 x hx)).1 hx).1, hlen x hx⟩
  have go : ∀ v : Int, v = (lenW Y.2.2.2 (Y.2.2.1 s) : Int) → ∀ v3 : Int, GX9_reach_91 X c0 s (wyI (Y.2.2.1 s)) v3 (Y.2.1.length : Nat) (up2 σ (c0 + 2) s v) Q := by
    intro v hv v3
    refine loop (Y.2.1.length - l1.length) Y.2.1.length (by omega) (Nat.le_refl _) _ (fun c k y1 y2 => up2_nc _ _ (by omega)) (fun k hk => up2_nc _ _ (by omega)) (up2_nc _ _ (by omega)) (fun c k hc => up2_nc _ _ (by omega)) (fun x hx => ?_) (fun i hi => ?_) (fun i hi hi2 => by omega) (fun x hx => ?_) (fun x hx hn => ?_) v3
    · by_cases e : x = s
      · rw [e, up2_s, if_pos rfl]; exact hv
      · rw [up2_nk _ _ e, if_neg e]
    · rw [up2_nc _ _ (by omega)]; exact hx2 i hi
    · rw [up2_nc _ _ (by omega), ((hx1 x (r256 x hx)).1 (memR x hx)).2, if_pos]
      exact List.idxOf_lt_length_of_mem hx
    · rw [up2_nc _ _ (by omega)]; exact (hx1 x hx).2.1 fun z => hn ((hY.2.1 x).mpr z)
  have g83 : ∀ (s0 s1 v3 : Int), s1 + s0 = (lenW Y.2.2.2 (Y.2.2.1 s) : Int) → inI (s1 + s0) → GX9_reach_83 X c0 s (wyI (Y.2.2.1 s)) v3 s0 s1 s σ Q := by
    intro s0 s1 v3 e hi
    refine rX9_reach_83 hway fun _ => ⟨by omega, hi, ?_⟩
    rw [show ((s : Int).toNat) = s from rfl, up2_nc _ _ (show c0 ≠ c0 + 2 by omega), hx4, ← hl]
    exact go _ e _
  have hpl := prt_le ((Y.2.2.1 s).2.1 / 8)
  refine eX9_reach (rX9_reach_0 hway fun _ => ?_)
  rw [hx4]
  refine ⟨fun z => by omega, fun _ => s_isWithin (by omega) (by decide) fun _ => ⟨by split <;> decide, fun z => ⟨by omega, ?_⟩, fun z => ?_⟩⟩
  · rw [show ((s : Int).toNat) = s from rfl, sy, wp.2.2.2.1, wp.2.1]
    have h120 := wsh.1
    refine s_parts (by omega) fun _ => ⟨by omega, fun y => ?_, fun y => ⟨by omega, ?_⟩⟩
    · refine rX9_reach_63 hway fun _ => ⟨by omega, fun _ => g83 _ _ _ ?_ (by decide), fun y2 => by omega⟩
      unfold lenW
      rw [if_neg (by omega), if_neg (by omega)]; rfl
    · rw [show (((Y.2.2.1 s).2.2.1 : Int).toNat) = (Y.2.2.1 s).2.2.1 from rfl]
      have la := lenOK _ (pD.1 (by omega))
      refine rX9_reach_63 hway fun _ => ⟨by omega, fun y2 => g83 _ _ _ ?_ (by omega), fun y2 => ?_⟩
      · rw [la.1]
        unfold lenW
        rw [if_pos (by omega), if_neg (by omega)]; omega
      · rw [wp.2.2.1, show (((Y.2.2.1 s).2.2.2 : Int).toNat) = (Y.2.2.1 s).2.2.2 from rfl]
        have lb := lenOK _ (pD.2 (by omega))
        refine ⟨by omega, g83 _ _ _ ?_ (by omega)⟩
        rw [la.1, lb.1]
        unfold lenW
        rw [if_pos (by omega), if_pos (by omega)]; omega
  · rw [if_pos (by omega)] at z
    exact absurd z (by decide)
