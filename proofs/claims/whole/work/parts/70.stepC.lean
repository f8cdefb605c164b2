/-! the class's step -/
theorem pw_getD {r : Nat → Nat → Prop} {D : List Nat} (h : D.Pairwise r) {i j : Nat} (hij : i < j) (hj : j < D.length) : r (D.getD i 0) (D.getD j 0) := by
  have := (List.pairwise_iff_getElem.mp h) i j (by omega) hj hij
  rw [List.getD_eq_getElem?_getD, List.getD_eq_getElem?_getD, List.getElem?_eq_getElem hj, List.getElem?_eq_getElem (show i < D.length by omega)]
  exact this
theorem s_joinAll {X : Cx} {c0 : Nat} {D R : List Nat} {W : Nat → WT} {Ln : Nat → Nat} {l : List OF} {σ : Sg} {Q : Int → Sg → Prop} {P : Nat → Int} {wd s : Nat} {dr : Int} (hw : isW c0) (hP : okP P) (hp : ∀ w, w < 15 → σ 11 w = P w) (hwd : wd < 32768) (h7 : σ c0 7 = (wd : Int)) (h10 : σ c0 10 = dr) (h11 : ljOK P wd (σ c0 11) 15) (hZ : okZ (D, R, W, Ln)) (hl : ∀ f ∈ l, shpT R f.2 ∧ 1 ≤ f.2.1) (hs : srC c0 (plW D R W Ln l) σ) (hsD : s ∈ D) (hD : D.length ≤ 256) (hord : D.Pairwise (fun a b => (W a).1 ≤ (W b).1)) (K : ∀ l' σ', frO c0 σ σ' → (∀ f ∈ l, f ∈ l') → (∀ f ∈ l', f ∈ l ∨ f ∈ offJ P wd W D s) → (∀ f ∈ offJ P wd W D s, f.2.1 ≤ dr → ∃ u ∈ l', u.1 = f.1 ∧ u.2.1 = f.2.1 ∧ ky R u.2 ≤ ky R f.2) → srC c0 (plW D R W Ln l') σ' → Q 0 σ') : KX9_joinAll X c0 s σ Q := by
  have hg := isW_ge hw
  have hway := hw.way
  have dlt : ∀ x, x ∈ D → x < 256 := hZ.2.2.1
  have dmR : ∀ x, x ∈ D → x ∈ R := fun x hx => (hZ.2.1 x).mpr hx
  have wb : ∀ x, 1 ≤ (W x).1 ∧ (W x).1 ≤ 1000 := fun x => (hZ.2.2.2.1 x).2
  have s256 := dlt s hsD
  refine eX9_joinAll (rX9_joinAll_0 hway fun _ => ?_)
  have loop : ∀ d i, i + d = D.length → ∀ l1 σ1, frO c0 σ σ1 → (∀ f ∈ l, f ∈ l1) → (∀ f ∈ l1, f ∈ l ∨ f ∈ offJ P wd W D s) → (∀ j, j < i → ∀ w f, prt w = 2 → wd.testBit w = true → f ∈ offJ1 P W w s (D.getD j 0) → ∃ u ∈ l1, u.1 = f.1 ∧ u.2.1 = f.2.1 ∧ ky R u.2 ≤ ky R f.2) → srC c0 (plW D R W Ln l1) σ1 → GX9_joinAll_2 X c0 s i σ1 Q := by
    intro d
    induction d with
    | zero =>
      intro i hi l1 σ1 f1 up sub cov s1
      have c6 : σ1 c0 6 = (D.length : Int) := s1.2.2.2
      refine rX9_joinAll_2 hway fun _ => ⟨by omega, fun _ => K l1 σ1 f1 up sub (fun f hf _ => ?_) s1, fun z => by omega⟩
      obtain ⟨w, h1, h2, h3, o, ho, hf⟩ := offJ_mem.mp hf
      have a := List.idxOf_lt_length_of_mem ho
      exact cov (rkF D o) (by unfold rkF; omega) w f h2 h3 (by rw [getD_rk ho]; exact hf)
    | succ d ih =>
      intro i hi l1 σ1 f1 up sub cov s1
      have c6 : σ1 c0 6 = (D.length : Int) := s1.2.2.2
      have c6i : σ1 (c0 + 6) i = ((D.getD i 0 : Nat) : Int) := s1.2.2.1 i (show i < D.length by omega)
      have hoD : D.getD i 0 ∈ D := getD_in (by omega)
      have pw := fun j (hj : i < j) (hj2 : j < D.length) => pw_getD hord hj hj2
      generalize ho : D.getD i 0 = o at *
      have o256 := dlt o hoD
      have e1s : σ1 (c0 + 1) s = (W s).1 := (s1.1 s s256).2.2.1.trans (by rw [plW_D hsD])
      have e1o : σ1 (c0 + 1) o = (W o).1 := (s1.1 o o256).2.2.1.trans (by rw [plW_D hoD])
      have e4s : σ1 (c0 + 4) s = (rkF R s : Int) := ((s1.1 s s256).1 hsD).2
      have e4o : σ1 (c0 + 4) o = (rkF R o : Int) := ((s1.1 o o256).1 hoD).2
      have e10 : σ1 c0 10 = dr := by rw [f1 c0 10 (by omega) (by omega)]; exact h10
      have e11 : σ1 c0 11 = σ c0 11 := f1 c0 11 (by omega) (by omega)
      have lj := h11.1
      have ws := wb s
      have wo := wb o
      have lok : ∀ f ∈ l1, shpT R f.2 ∧ 1 ≤ f.2.1 := fun f hf => by
        rcases sub f hf with y | y
        · exact hl f y
        · obtain ⟨w, h1, h2, h3, o', ho', hf⟩ := offJ_mem.mp y
          have w5 := prt_2 h2
          have k1 := oJ_ok (w := w) hP hZ w5 hsD ho'
          have k2 := oJ_ok (w := w) hP hZ w5 ho' hsD
          have q := hP w h1
          have ws' := wb s
          have wo' := wb o'
          unfold offJ1 at hf
          rcases List.mem_cons.mp hf with z | z
          · rw [z]; exact ⟨k1.1, by show 1 ≤ (W s).1 + (W o').1 + P w; omega⟩
          · rw [List.mem_singleton.mp z]; exact ⟨k2.1, by show 1 ≤ (W s).1 + (W o').1 + P w; omega⟩
      have nxt : ∀ a b, ((a = s ∧ b = o) ∨ (a = o ∧ b = s)) → rkF R a ≤ rkF R b → ∀ σ2, frO c0 σ1 σ2 → srC c0 (plW D R W Ln (l1 ++ joinL P wd W a b)) σ2 → GX9_joinAll_2 X c0 s ((i : Int) + 1) σ2 Q := by
        intro a b hab hr σ2 f2 s2
        have cost2 : ∀ w, P w + (W a).1 + (W b).1 = (W s).1 + (W o).1 + P w ∧ P w + (W b).1 + (W a).1 = (W s).1 + (W o).1 + P w := fun w => by
          rcases hab with ⟨rfl, rfl⟩ | ⟨rfl, rfl⟩ <;> omega
        have inJ' : ∀ w, (w = 5 ∨ w = 6 ∨ w = 7) → wd.testBit w = true → oJ P W w a b ∈ offJ P wd W D s ∧ oJ P W w b a ∈ offJ P wd W D s := fun w h5 hb => by
          have p2 : prt w = 2 := by rcases h5 with rfl | rfl | rfl <;> rfl
          have e1 := (cost2 w).1
          have e2 := (cost2 w).2
          have key : ∀ x y, ((x = s ∧ y = o) ∨ (x = o ∧ y = s)) → P w + (W x).1 + (W y).1 = (W s).1 + (W o).1 + P w → oJ P W w x y ∈ offJ P wd W D s := fun x y hxy e => by
            refine offJ_mem.mpr ⟨w, by omega, p2, hb, o, hoD, ?_⟩
            unfold oJ offJ1
            rw [e]
            rcases hxy with ⟨rfl, rfl⟩ | ⟨rfl, rfl⟩
            · exact List.mem_cons_self
            · exact List.mem_cons_of_mem _ List.mem_cons_self
          exact ⟨key a b hab e1, key b a (by omega) e2⟩
        refine ih (i + 1) (by omega) _ σ2 (f1.trans f2) (fun f hf => List.mem_append.mpr (Or.inl (up f hf))) (fun f hf => ?_) (fun j hj w f hp2 hb hf => ?_) s2
        · rcases List.mem_append.mp hf with y | y
          · exact sub f y
          · right
            unfold joinL at y
            rcases List.mem_append.mp y with y | y
            · rcases List.mem_append.mp y with y | y
              · split at y
                · rename_i hb
                  rw [List.mem_singleton.mp y]; exact (inJ' 5 (Or.inl rfl) hb).1
                · cases y
              · split at y
                · rename_i hb
                  rw [List.mem_singleton.mp y]; exact (inJ' 6 (Or.inr (Or.inl rfl)) hb).1
                · cases y
            · split at y
              · rename_i hb
                rcases List.mem_cons.mp y with y | y
                · rw [y]; exact (inJ' 7 (Or.inr (Or.inr rfl)) hb).1
                · rw [List.mem_singleton.mp y]; exact (inJ' 7 (Or.inr (Or.inr rfl)) hb).2
              · cases y
        · rcases Nat.lt_succ_iff_lt_or_eq.mp hj with y | y
          · obtain ⟨u, hu, k⟩ := cov j y w f hp2 hb hf
            exact ⟨u, List.mem_append.mpr (Or.inl hu), k⟩
          · rw [y, ho] at hf
            obtain ⟨u, hu, k⟩ := join_cov hZ.1 hp2 hb hab hr hf
            exact ⟨u, List.mem_append.mpr (Or.inr hu), k⟩
      refine rX9_joinAll_2 hway fun _ => ⟨by omega, fun z => by omega, fun _ => ⟨by omega, fun z => by omega, fun _ => ?_⟩⟩
      rw [show ((i : Int).toNat) = i from rfl, c6i, zand255 o256, show ((s : Int).toNat) = s from rfl, show ((o : Int).toNat) = o from rfl, e1s, e1o, e4s, e4o, e10, e11]
      refine ⟨by omega, by omega, by omega, by omega, fun z => ⟨by omega, by omega, fun y => ?_, fun y => ?_⟩, fun z => ?_⟩
      · refine rX9_joinAll_77 hway fun _ => ⟨by decide, fun _ => rX9_joinAll_92 hway fun _ => ⟨by decide, fun _ => rX9_joinAll_103 hway fun _ => ?_, fun z => absurd rfl z⟩, fun z => absurd rfl z⟩
        refine s_joinTwo hw hP (fun w hw' => by rw [f1 11 w (by omega) (by omega)]; exact hp w hw') hwd (by rw [f1 c0 7 (by omega) (by omega)]; exact h7) hZ lok s1 hoD hsD fun σ2 f2 s2 => fun _ => nxt o s (Or.inr ⟨rfl, rfl⟩) (by omega) σ2 f2 s2
      · refine rX9_joinAll_77 hway fun _ => ⟨by decide, fun z => absurd z (by decide), fun _ => rX9_joinAll_92 hway fun _ => ⟨by decide, fun z => absurd z (by decide), fun _ => rX9_joinAll_103 hway fun _ => ?_⟩⟩
        refine s_joinTwo hw hP (fun w hw' => by rw [f1 11 w (by omega) (by omega)]; exact hp w hw') hwd (by rw [f1 c0 7 (by omega) (by omega)]; exact h7) hZ lok s1 hsD hoD fun σ2 f2 s2 => fun _ => nxt s o (Or.inl ⟨rfl, rfl⟩) (by omega) σ2 f2 s2
      · refine K l1 σ1 f1 up sub (fun f hf hd => ?_) s1
        obtain ⟨w, h1, h2, h3, o', ho', hf⟩ := offJ_mem.mp hf
        have a := List.idxOf_lt_length_of_mem ho'
        rcases Nat.lt_or_ge (rkF D o') i with c | c
        · exact cov (rkF D o') c w f h2 h3 (by rw [getD_rk ho']; exact hf)
        · exfalso
          have le : (W o).1 ≤ (W o').1 := by
            rcases Nat.lt_or_ge i (rkF D o') with c2 | c2
            · have := pw (rkF D o') c2 (by unfold rkF; omega)
              rw [getD_rk ho'] at this
              exact this
            · have : D.getD (rkF D o') 0 = o := by rw [show rkF D o' = i by omega]; exact ho
              rw [getD_rk ho'] at this
              rw [this]; exact Int.le_refl _
          have lw := h11.2 w h1 h2 h3
          have fc : f.2.1 = (W s).1 + (W o').1 + P w := by
            unfold offJ1 at hf
            rcases List.mem_cons.mp hf with y | y
            · rw [y]
            · rw [List.mem_singleton.mp y]
          omega
  exact loop D.length 0 (by omega) l σ (frO.refl _ _) (fun f hf => hf) (fun f hf => Or.inl hf) (fun j hj => by omega) hs
theorem app_rel {R D : List Nat} {l1 l2 : List OF} {V W : Nat → WT} {dr : Int} {x : Nat} (hR : R.length ≤ 256) (hl1 : ∀ f ∈ l1, shpT R f.2) (hV : shpT R (V x)) (hW : shpT R (W x)) (hx : x ∉ D) (hsub : ∀ f ∈ l2, f ∈ l1) (hdom : ∀ f ∈ l1, f.2.1 ≤ dr → ∃ u ∈ l2, u.1 = f.1 ∧ u.2.1 = f.2.1 ∧ ky R u.2 ≤ ky R f.2) (h : relW dr (V x) (W x)) : relW dr (l2.foldl (appW R D) V x) (l1.foldl (appW R D) W x) := by
  rw [appW_fold, appW_fold, if_neg hx, if_neg hx]
  refine fold_rel hR (fun v hv => ?_) hV hW (fun v hv => ?_) (fun v hv hc hd => ?_) h
  · obtain ⟨f, hf, rfl⟩ := List.mem_map.mp hv
    exact hl1 f (List.mem_filter.mp hf).1
  · obtain ⟨f, hf, rfl⟩ := List.mem_map.mp hv
    have := List.mem_filter.mp hf
    exact List.mem_map.mpr ⟨f, List.mem_filter.mpr ⟨hsub f this.1, this.2⟩, rfl⟩
  · obtain ⟨f, hf, rfl⟩ := List.mem_map.mp hv
    have q := List.mem_filter.mp hf
    obtain ⟨u, hu, u1, u2, u3⟩ := hdom f q.1 hd
    refine ⟨u.2, List.mem_map.mpr ⟨u, List.mem_filter.mpr ⟨hu, ?_⟩, rfl⟩, by omega, u3⟩
    rw [u1]; exact q.2
theorem plW_low {R D : List Nat} {Ln : Nat → Nat} {l : List OF} {W : Nat → WT} (hZ : okZ (D, R, W, Ln)) (hl : ∀ f ∈ l, shpT R f.2 ∧ 1 ≤ f.2.1) (x : Nat) : ((plW D R W Ln l).2.2.1 x).1 ≤ (W x).1 := by
  have hx : shpT R (W x) := (hZ.2.2.2.1 x).1
  have hy : shpT R ((plW D R W Ln l).2.2.1 x) := ((okZ_pl l W hZ hl).2.2.2.1 x).1
  refine ky_cost hZ.1 hy.1 hx.1 ?_
  show ky R (l.foldl (appW R D) W x) ≤ ky R (W x)
  rw [appW_fold]
  split
  · exact Int.le_refl _
  · exact (fold_min _ _).2.1
theorem offT_congr {S : Sc} {P : Nat → Int} {wd s : Nat} {V W : Nat → WT} (h : V s = W s) : offT S P wd V s = offT S P wd W s := by
  unfold offT; rw [h]
theorem offJ_congr {P : Nat → Int} {wd s : Nat} {D : List Nat} {V W : Nat → WT} (hs : V s = W s) (h : ∀ o, o ∈ D → V o = W o) (f : OF) : f ∈ offJ P wd V D s ↔ f ∈ offJ P wd W D s := by
  rw [offJ_mem, offJ_mem]
  constructor
  · rintro ⟨w, h1, h2, h3, o, ho, hf⟩
    refine ⟨w, h1, h2, h3, o, ho, ?_⟩
    unfold offJ1 at hf ⊢
    rw [← hs, ← h o ho]; exact hf
  · rintro ⟨w, h1, h2, h3, o, ho, hf⟩
    refine ⟨w, h1, h2, h3, o, ho, ?_⟩
    unfold offJ1 at hf ⊢
    rw [hs, h o ho]; exact hf
/-- the relation after a step -/
theorem step_rel {S : Sc} {P : Nat → Int} {wd s : Nat} {Y Z : AT} {dr th : Int} {l : List OF} (hP : okP P) (h8 : S.1 ≤ 8) (h : AI S Z) (hr : relZ dr Y Z) (hn : nxtW Z (2 ^ S.1) = some s) (he : Y.2.2.1 s = Z.2.2.1 s) (hwn : ∀ x, x < 2 ^ S.1 → x ∉ Z.1 → wnt th x → (Y.2.2.1 x).1 ≤ dr) (hY : okZ (stZ Y s)) (hsub : ∀ f ∈ l, f ∈ offT S P wd Y.2.2.1 s ++ offJ P wd Y.2.2.1 (Y.1 ++ [s]) s) (hdom : ∀ f ∈ offT S P wd Y.2.2.1 s ++ offJ P wd Y.2.2.1 (Y.1 ++ [s]) s, f.2.1 ≤ dr → ∃ u ∈ l, u.1 = f.1 ∧ u.2.1 = f.2.1 ∧ ky (stZ Y s).2.1 u.2 ≤ ky (stZ Y s).2.1 f.2) : relZ dr (plW (stZ Y s).1 (stZ Y s).2.1 (stZ Y s).2.2.1 (stZ Y s).2.2.2 l) (stepW S P wd Z s) ∧ (∀ x, x < 2 ^ S.1 → x ∉ (stepW S P wd Z s).1 → wnt th x → ((plW (stZ Y s).1 (stZ Y s).2.1 (stZ Y s).2.2.1 (stZ Y s).2.2.2 l).2.2.1 x).1 ≤ dr) := by
  obtain ⟨r1, r2, r3, r4, r5, r6⟩ := hr
  have st := AI_step (wd := wd) hP h8 h hn
  have hnx := nxtW_is Z (2 ^ S.1)
  rw [hn] at hnx
  obtain ⟨hsN, hsD, hsc, -⟩ := hnx
  have hiv : insW Y.2.1 Y.2.2.1 s Y.2.1 = insW Z.2.1 Z.2.2.1 s Z.2.1 := by
    rw [r2]
    exact insW_congr he _ fun o ho => r4 o ((h.mem o).mp ho)
  have hZs := ins_ok (L := Z.2.2.2) h8 h hsN hsD hsc
  have onD : ∀ x, x ∈ Z.1 ++ [s] → Y.2.2.1 x = Z.2.2.1 x := fun x hx => by
    rcases List.mem_append.mp hx with q | q
    · exact r4 x q
    · rw [List.mem_singleton.mp q]; exact he
  have oT : offT S P wd Y.2.2.1 s = offT S P wd Z.2.2.1 s := offT_congr he
  have oJ' := fun f => offJ_congr (P := P) (wd := wd) (s := s) (D := Z.1 ++ [s]) (V := Y.2.2.1) (W := Z.2.2.1) he onD f
  have hoff := off_ok (S := S) (P := P) (wd := wd) (s := s) (W := Z.2.2.1) (D := Z.1 ++ [s]) (R := insW Z.2.1 Z.2.2.1 s Z.2.1) hP (fun x => (h.way x).2.1) ((hZs.2.1 s).mpr (show s ∈ Z.1 ++ [s] by simp)) (fun o ho => (hZs.2.1 o).mpr ho)
  have sub' : ∀ f ∈ l, f ∈ offT S P wd Z.2.2.1 s ++ offJ P wd Z.2.2.1 (Z.1 ++ [s]) s := fun f hf => by
    have := hsub f hf
    rw [oT, r1] at this
    rcases List.mem_append.mp this with q | q
    · exact List.mem_append.mpr (Or.inl q)
    · exact List.mem_append.mpr (Or.inr ((oJ' f).mp q))
  have lok : ∀ f ∈ l, shpT (stZ Y s).2.1 f.2 ∧ 1 ≤ f.2.1 := fun f hf => by
    have o := hoff f (sub' f hf)
    show shpT (insW Y.2.1 Y.2.2.1 s Y.2.1) f.2 ∧ 1 ≤ f.2.1
    rw [hiv]
    exact ⟨o.2.1, by have := (h.way s).2.1; omega⟩
  refine ⟨⟨?_, ?_, ?_, fun x hx => ?_, fun x hx => ?_, okZ_pl l _ hY lok⟩, fun x hx hxn hw => ?_⟩
  · show Y.1 ++ [s] = Z.1 ++ [s]
    rw [r1]
  · exact hiv
  · show (fun x => if x = s then lenW Y.2.2.2 (Y.2.2.1 s) else Y.2.2.2 x) = (fun x => if x = s then lenW Z.2.2.2 (Z.2.2.1 s) else Z.2.2.2 x)
    rw [r3, he]
  · have hx : x ∈ Z.1 ++ [s] := hx
    rw [st.2.2.2 x hx, plW_D (show x ∈ (stZ Y s).1 by show x ∈ Y.1 ++ [s]; rw [r1]; exact hx)]
    exact onD x hx
  · have hx : x ∉ Z.1 ++ [s] := hx
    show relW dr (l.foldl (appW (insW Y.2.1 Y.2.2.1 s Y.2.1) (Y.1 ++ [s])) Y.2.2.1 x) ((offT S P wd Z.2.2.1 s ++ offJ P wd Z.2.2.1 (Z.1 ++ [s]) s).foldl (appW (insW Z.2.1 Z.2.2.1 s Z.2.1) (Z.1 ++ [s])) Z.2.2.1 x)
    have hV : shpT (insW Y.2.1 Y.2.2.1 s Y.2.1) (Y.2.2.1 x) := (hY.2.2.2.1 x).1
    have hdom' : ∀ f ∈ offT S P wd Y.2.2.1 s ++ offJ P wd Y.2.2.1 (Y.1 ++ [s]) s, f.2.1 ≤ dr → ∃ u ∈ l, u.1 = f.1 ∧ u.2.1 = f.2.1 ∧ ky (insW Y.2.1 Y.2.2.1 s Y.2.1) u.2 ≤ ky (insW Y.2.1 Y.2.2.1 s Y.2.1) f.2 := hdom
    rw [hiv] at hV hdom' ⊢
    rw [r1] at hdom' ⊢
    refine app_rel hZs.1 (fun f hf => (hoff f hf).2.1) hV (hZs.2.2.2.1 x).1 hx sub' (fun f hf hd => hdom' f ?_ hd) (r5 x fun z => hx (List.mem_append.mpr (Or.inl z)))
    rw [oT]
    rcases List.mem_append.mp hf with q | q
    · exact List.mem_append.mpr (Or.inl q)
    · exact List.mem_append.mpr (Or.inr ((oJ' f).mpr q))
  · have hxn : x ∉ Z.1 ++ [s] := hxn
    have a := plW_low (l := l) (show okZ ((stZ Y s).1, (stZ Y s).2.1, (stZ Y s).2.2.1, (stZ Y s).2.2.2) from hY) lok x
    have b := hwn x hx (fun z => hxn (List.mem_append.mpr (Or.inl z))) hw
    have c : ((stZ Y s).2.2.1 x).1 = (Y.2.2.1 x).1 := rfl
    omega
