theorem cnt_true {q : Nat → Bool} (h : ∀ t, q t = true) : ∀ n, cnt q n = n
  | 0 => rfl
  | n + 1 => by show cnt q n + _ = n + 1; rw [cnt_true h n, if_pos (h n)]
theorem noneW_ok (R : List Nat) : shpT R noneW := ⟨by decide, fun _ => ⟨rfl, rfl⟩, fun z => by have z : prt 0 = 1 := z; exact absurd z (by decide), fun z => by have z : prt 0 = 2 := z; exact absurd z (by decide)⟩
theorem AI_start {S : Sc} {P : Nat → Int} {wd : Nat} (hP : okP P) : AI S (startW S P wd) := by
  have hW : ∀ x, (startW S P wd).2.2.1 x = noneW ∨ (∃ f ∈ offN S P wd, f.1 = x ∧ (startW S P wd).2.2.1 x = f.2) := by
    intro x
    have e : (startW S P wd).2.2.1 x = ((((offN S P wd).filter (fun f => decide (f.1 = x))).map (fun f => f.2)).foldl (updW []) noneW) := by
      show (offN S P wd).foldl (appW [] []) (fun _ => noneW) x = _
      rw [appW_fold, if_neg List.not_mem_nil]
    rw [e]
    rcases (fold_min (R := []) (((offN S P wd).filter (fun f => decide (f.1 = x))).map (fun f => f.2)) noneW).1 with q | q
    · exact Or.inl q
    · obtain ⟨f, hf, hfe⟩ := List.mem_map.mp q.1
      have := List.mem_filter.mp hf
      exact Or.inr ⟨f, this.1, by simpa using this.2, hfe.symm⟩
  refine ⟨?_, fun d hd => absurd hd List.not_mem_nil, fun x => Iff.rfl, rfl, fun x => ?_, fun x hx => ?_, List.Pairwise.nil, fun d hd => absurd hd List.not_mem_nil, fun d hd => absurd hd List.not_mem_nil, List.Pairwise.nil, fun d hd => absurd hd List.not_mem_nil⟩
  · show 0 + cnt _ _ = _
    rw [cnt_true (fun t => by simp [startW])]
    omega
  · rcases hW x with q | ⟨f, hf, h1, h2⟩
    · rw [q]; exact ⟨noneW_ok _, by decide, by decide⟩
    · have := offN_ok (S := S) (wd := wd) hP f hf
      rw [h2]; exact ⟨this.2.1, this.2.2.1, by omega⟩
  · rcases hW x with q | ⟨f, hf, h1, h2⟩
    · rw [q] at hx; exact absurd hx (by decide)
    · have := offN_ok (S := S) (wd := wd) hP f hf
      rw [h2]
      refine ⟨by rw [← h1]; exact this.1, fun z => ?_, fun z => ?_⟩
      · have := this.2.2.2.2; omega
      · have := this.2.2.2.2; omega
theorem tgt_2 {S : Sc} {u v : WT} (h : u.2 = v.2) : tgt S u = tgt S v := by unfold tgt; rw [h]
theorem AI_step {S : Sc} {P : Nat → Int} {wd s : Nat} {Z : AT} (hP : okP P) (h8 : S.1 ≤ 8) (h : AI S Z) (hn : nxtW Z (2 ^ S.1) = some s) : AI S (stepW S P wd Z s) ∧ s < 2 ^ S.1 ∧ s ∉ Z.1 ∧ (∀ x, x ∈ Z.1 ++ [s] → (stepW S P wd Z s).2.2.1 x = Z.2.2.1 x) := by
  have hnx := nxtW_is Z (2 ^ S.1)
  rw [hn] at hnx
  obtain ⟨hsN, hsD, hsc, hmin⟩ := hnx
  have p8 := pow_lt8 h8
  obtain ⟨l1, l2, hR, hR', hl1, hl2⟩ := insW_is Z.2.1 Z.2.2.1 s Z.2.1
  have hlen := h.len
  have hrl := h.rlen
  have hone : cnt (fun x => decide (x ∉ Z.1)) (2 ^ S.1) = cnt (fun x => decide (x ∉ Z.1 ++ [s])) (2 ^ S.1) + 1 := cnt_one _ hsN (by simpa using hsD) (by simp) fun t ht => by simp [ht]
  have hsR : s ∉ Z.2.1 := fun z => hsD ((h.mem s).mp z)
  have hsl : s ∉ l1 ++ l2 := by rw [← hR]; exact hsR
  have hRl : (l1 ++ l2).length + 1 ≤ 256 := by rw [← hR]; omega
  have hR2 : Z.2.1.length ≤ 256 := by omega
  have hR3 : (l1 ++ s :: l2).length ≤ 256 := by simp at hRl ⊢; omega
  have hmem : ∀ x, x ∈ l1 ++ s :: l2 ↔ x ∈ Z.1 ++ [s] := fun x => by
    have := h.mem x
    rw [hR] at this
    simp at this ⊢
    constructor
    · rintro (q | q | q)
      · exact Or.inl (this.mp (Or.inl q))
      · exact Or.inr q
      · exact Or.inl (this.mp (Or.inr q))
    · rintro (q | q)
      · rcases this.mpr q with q | q
        · exact Or.inl q
        · exact Or.inr (Or.inr q)
      · exact Or.inr (Or.inl q)
  have up : ∀ w, shpT Z.2.1 w → shpT (l1 ++ s :: l2) w := fun w hw => by
    have sub : ∀ x, x ∈ Z.2.1 → x ∈ l1 ++ s :: l2 := fun x hx => (hmem x).mpr (List.mem_append.mpr (Or.inl ((h.mem x).mp hx)))
    exact ⟨hw.1, hw.2.1, fun z => ⟨sub _ (hw.2.2.1 z).1, (hw.2.2.1 z).2⟩, fun z => ⟨sub _ (hw.2.2.2 z).1, sub _ (hw.2.2.2 z).2⟩⟩
  have hW1 : ∀ x, 1 ≤ (Z.2.2.1 x).1 := fun x => (h.way x).2.1
  have offs := off_ok (S := S) (P := P) (wd := wd) (s := s) (W := Z.2.2.1) (D := Z.1 ++ [s]) (R := l1 ++ s :: l2) hP hW1 (by simp) fun o ho => (hmem o).mpr ho
  have eW : ∀ x, (stepW S P wd Z s).2.2.1 x = if x ∈ Z.1 ++ [s] then Z.2.2.1 x else ((((offT S P wd Z.2.2.1 s ++ offJ P wd Z.2.2.1 (Z.1 ++ [s]) s).filter (fun f => decide (f.1 = x))).map (fun f => f.2)).foldl (updW (l1 ++ s :: l2)) (Z.2.2.1 x)) := fun x => by
    show (offT S P wd Z.2.2.1 s ++ offJ P wd Z.2.2.1 (Z.1 ++ [s]) s).foldl (appW (insW Z.2.1 Z.2.2.1 s Z.2.1) (Z.1 ++ [s])) Z.2.2.1 x = _
    rw [hR', appW_fold]
  have same : ∀ x, x ∈ Z.1 ++ [s] → (stepW S P wd Z s).2.2.1 x = Z.2.2.1 x := fun x hx => by rw [eW, if_pos hx]
  have cases' : ∀ x, (stepW S P wd Z s).2.2.1 x = Z.2.2.1 x ∨ (x ∉ Z.1 ++ [s] ∧ ∃ f ∈ offT S P wd Z.2.2.1 s ++ offJ P wd Z.2.2.1 (Z.1 ++ [s]) s, f.1 = x ∧ (stepW S P wd Z s).2.2.1 x = f.2 ∧ f.2.1 < 1000) := fun x => by
    by_cases q : x ∈ Z.1 ++ [s]
    · exact Or.inl (same x q)
    · rw [eW, if_neg q]
      rcases (fold_min (R := l1 ++ s :: l2) (((offT S P wd Z.2.2.1 s ++ offJ P wd Z.2.2.1 (Z.1 ++ [s]) s).filter (fun f => decide (f.1 = x))).map (fun f => f.2)) (Z.2.2.1 x)).1 with y | y
      · exact Or.inl y
      · obtain ⟨f, hf, hfe⟩ := List.mem_map.mp y.1
        have := List.mem_filter.mp hf
        refine Or.inr ⟨q, f, this.1, by simpa using this.2, hfe.symm, ?_⟩
        rw [hfe]; exact y.2
  have pC : ∀ w, shpT (l1 ++ s :: l2) w → prtC Z.2.2.1 w → prtC (stepW S P wd Z s).2.2.1 w := fun w hw hc => by
    refine ⟨fun z => ?_, fun z => ?_⟩
    · rw [same _ ((hmem _).mp (hw.2.2.1 z).1)]; exact hc.1 z
    · rw [same _ ((hmem _).mp (hw.2.2.2 z).1), same _ ((hmem _).mp (hw.2.2.2 z).2)]; exact hc.2 z
  have inD : ∀ w, shpT Z.2.1 w → (0 < prt (w.2.1 / 8) → w.2.2.1 ∈ Z.1) ∧ (1 < prt (w.2.1 / 8) → w.2.2.2 ∈ Z.1) := fun w hw => by
    rcases prt_3 (w.2.1 / 8) with p | p | p
    · exact ⟨fun z => by omega, fun z => by omega⟩
    · exact ⟨fun _ => (h.mem _).mp (hw.2.2.1 p).1, fun z => by omega⟩
    · exact ⟨fun _ => (h.mem _).mp (hw.2.2.2 p).1, fun _ => (h.mem _).mp (hw.2.2.2 p).2⟩
  have lenE : ∀ w, shpT Z.2.1 w → lenW (stepW S P wd Z s).2.2.2 w = lenW Z.2.2.2 w := fun w hw => by
    have d := inD w hw
    have ne : ∀ x, x ∈ Z.1 → (stepW S P wd Z s).2.2.2 x = Z.2.2.2 x := fun x hx => if_neg (fun e : x = s => hsD (e ▸ hx))
    unfold lenW
    congr 1
    · congr 1
      by_cases c : 0 < prt (w.2.1 / 8)
      · rw [if_pos c, if_pos c, ne _ (d.1 c)]
      · rw [if_neg c, if_neg c]
    · by_cases c : 1 < prt (w.2.1 / 8)
      · rw [if_pos c, if_pos c, ne _ (d.2 c)]
      · rw [if_neg c, if_neg c]
  refine ⟨⟨?_, fun d hd => ?_, fun x => ?_, ?_, fun x => ?_, fun x hx => ?_, ?_, fun d hd => ?_, fun d hd x hxN hx => ?_, ?_, fun d hd => ?_⟩, hsN, hsD, same⟩
  · show (Z.1 ++ [s]).length + cnt (fun x => decide (x ∉ Z.1 ++ [s])) _ = _
    rw [List.length_append, List.length_singleton]; omega
  · rcases List.mem_append.mp hd with hd | hd
    · exact h.lt d hd
    · rw [List.mem_singleton.mp hd]; exact hsN
  · show x ∈ insW Z.2.1 Z.2.2.1 s Z.2.1 ↔ x ∈ Z.1 ++ [s]
    rw [hR']; exact hmem x
  · show (insW Z.2.1 Z.2.2.1 s Z.2.1).length = (Z.1 ++ [s]).length
    have e : Z.2.1.length = l1.length + l2.length := by
      have := congrArg List.length hR
      rw [List.length_append] at this; exact this
    rw [hR', List.length_append, List.length_append, List.length_cons, List.length_singleton]
    omega
  · show shpT (insW Z.2.1 Z.2.2.1 s Z.2.1) _ ∧ _
    rw [hR']
    rcases cases' x with q | ⟨_, f, hf, h1, h2, h3⟩
    · rw [q]; exact ⟨up _ (h.way x).1, (h.way x).2⟩
    · have o := offs f hf
      rw [h2]; exact ⟨o.2.1, by have := hW1 s; omega, by omega⟩
  · rcases cases' x with q | ⟨_, f, hf, h1, h2, h3⟩
    · rw [q] at hx ⊢
      exact ⟨(h.tg x hx).1, pC _ (up _ (h.way x).1) (h.tg x hx).2⟩
    · have o := offs f hf
      rw [h2]; exact ⟨by rw [← h1]; exact o.1, pC _ o.2.1 o.2.2.2⟩
  · show (insW Z.2.1 Z.2.2.1 s Z.2.1).Pairwise (fun a b => k2 (insW Z.2.1 Z.2.2.1 s Z.2.1) _ < k2 (insW Z.2.1 Z.2.2.1 s Z.2.1) _)
    rw [hR']
    have sr := h.srt
    have k := fun {u v : WT} (hu : shpT Z.2.1 u) (hv : shpT Z.2.1 v) => k2_keep (u := u) (v := v) hRl hsl (by rw [← hR]; exact hu) (by rw [← hR]; exact hv)
    have sameR : ∀ x, x ∈ l1 ++ s :: l2 → (stepW S P wd Z s).2.2.1 x = Z.2.2.1 x := fun x hx => same x ((hmem x).mp hx)
    have ne : ∀ o, o ∈ Z.2.1 → k2 Z.2.1 (Z.2.2.1 s) ≠ k2 Z.2.1 (Z.2.2.1 o) := fun o ho e => by
      have sh : ∀ w : WT, shpT Z.2.1 w → shpT Z.2.1 (0, w.2) := fun w hw => hw
      have := ky_inj hR2 (sh _ (h.way s).1) (sh _ (h.way o).1) e
      have e2 : (Z.2.2.1 s).2 = (Z.2.2.1 o).2 := (Prod.mk.inj this).2
      have t1 := (h.tg s hsc).1
      have t2 := (h.tg o (h.fin o ((h.mem o).mp ho))).1
      rw [tgt_2 e2, ← t2] at t1
      exact hsR (t1 ▸ ho)
    have after : ∀ o, o ∈ l2 → k2 Z.2.1 (Z.2.2.1 s) < k2 Z.2.1 (Z.2.2.1 o) := by
      rw [hR] at sr
      have sr2 := (List.pairwise_append.mp sr).2.1
      cases hl : l2 with
      | nil => intro o ho; exact absurd ho List.not_mem_nil
      | cons x xs =>
        rw [hl] at sr2 hl2
        have hx : x ∈ Z.2.1 := by rw [hR, hl]; simp
        have a := hl2 x rfl
        have b := ne x hx
        intro o ho
        rcases List.mem_cons.mp ho with rfl | ho
        · omega
        · have := (List.pairwise_cons.mp sr2).1 o ho
          rw [← hl, ← hR] at this
          omega
    rw [hR] at sr
    obtain ⟨p1, p2, p3⟩ := List.pairwise_append.mp sr
    rw [← hR] at p1 p2 p3
    have m1 : ∀ o, o ∈ l1 → o ∈ Z.2.1 := fun o ho => by rw [hR]; exact List.mem_append.mpr (Or.inl ho)
    have m2 : ∀ o, o ∈ l2 → o ∈ Z.2.1 := fun o ho => by rw [hR]; exact List.mem_append.mpr (Or.inr ho)
    have i1 : ∀ o, o ∈ l1 → o ∈ l1 ++ s :: l2 := fun o ho => List.mem_append.mpr (Or.inl ho)
    have i2 : ∀ o, o ∈ l2 → o ∈ l1 ++ s :: l2 := fun o ho => List.mem_append.mpr (Or.inr (List.mem_cons_of_mem _ ho))
    have is : s ∈ l1 ++ s :: l2 := by simp
    have kk : ∀ a b, a ∈ l1 ++ s :: l2 → b ∈ l1 ++ s :: l2 → k2 Z.2.1 (Z.2.2.1 a) < k2 Z.2.1 (Z.2.2.1 b) → k2 (l1 ++ s :: l2) ((stepW S P wd Z s).2.2.1 a) < k2 (l1 ++ s :: l2) ((stepW S P wd Z s).2.2.1 b) := fun a b ha hb hab => by
      rw [sameR a ha, sameR b hb]
      have := (k (h.way a).1 (h.way b).1)
      rw [← hR] at this
      exact this.mpr hab
    refine List.pairwise_append.mpr ⟨p1.imp_of_mem fun {a b} ha hb hab => kk a b (i1 a ha) (i1 b hb) hab, List.pairwise_cons.mpr ⟨fun b hb => kk s b is (i2 b hb) (after b hb), p2.imp_of_mem fun {a b} ha hb hab => kk a b (i2 a ha) (i2 b hb) hab⟩, fun a ha b hb => ?_⟩
    rcases List.mem_cons.mp hb with rfl | hb
    · exact kk a b (i1 a ha) is (hl1 a ha)
    · exact kk a b (i1 a ha) (i2 b hb) (p3 a ha b hb)
  · rw [same d hd]
    rcases List.mem_append.mp hd with hd | hd
    · exact h.fin d hd
    · rw [List.mem_singleton.mp hd]; exact hsc
  · rw [same d hd]
    have ds : (Z.2.2.1 d).1 ≤ (Z.2.2.1 s).1 := by
      rcases List.mem_append.mp hd with hd | hd
      · exact h.low d hd s hsN hsD
      · rw [List.mem_singleton.mp hd]; exact Int.le_refl _
    rcases cases' x with q | ⟨_, f, hf, h1, h2, h3⟩
    · rw [q]
      have hxD : x ∉ Z.1 := fun z => hx (List.mem_append.mpr (Or.inl z))
      rcases List.mem_append.mp hd with hd | hd
      · exact h.low d hd x hxN hxD
      · rw [List.mem_singleton.mp hd]
        exact hmin x hxN hxD
    · have o := offs f hf
      rw [h2]; omega
  · show (Z.1 ++ [s]).Pairwise _
    refine List.pairwise_append.mpr ⟨?_, List.pairwise_singleton _ _, fun a ha b hb => ?_⟩
    · refine h.ord.imp_of_mem fun {a b} ha hb hab => ?_
      rw [same a (List.mem_append.mpr (Or.inl ha)), same b (List.mem_append.mpr (Or.inl hb))]; exact hab
    · rw [List.mem_singleton.mp hb, same a (List.mem_append.mpr (Or.inl ha)), same s (by simp)]
      exact h.low a ha s hsN hsD
  · rw [same d hd]
    rcases List.mem_append.mp hd with hd | hd
    · have q := h.lng d hd
      have e : (stepW S P wd Z s).2.2.2 d = Z.2.2.2 d := if_neg (fun e : d = s => hsD (e ▸ hd))
      rw [e, lenE _ (h.way d).1]; exact q
    · rw [List.mem_singleton.mp hd]
      have e : (stepW S P wd Z s).2.2.2 s = lenW Z.2.2.2 (Z.2.2.1 s) := if_pos rfl
      rw [lenE _ (h.way s).1]
      refine ⟨by rw [e]; unfold lenW; omega, ?_, e⟩
      rw [e]
      have d := inD _ (h.way s).1
      have c := (h.tg s hsc).2
      have w1 := hW1 s
      unfold lenW
      rcases prt_3 ((Z.2.2.1 s).2.1 / 8) with p | p | p
      · rw [if_neg (by omega), if_neg (by omega)]; omega
      · rw [if_pos (by omega), if_neg (by omega)]
        have := (h.lng _ (d.1 (by omega))).2.1
        have := c.1 p
        omega
      · rw [if_pos (by omega), if_pos (by omega)]
        have := (h.lng _ (d.1 (by omega))).2.1
        have := (h.lng _ (d.2 (by omega))).2.1
        have := c.2 p
        omega
