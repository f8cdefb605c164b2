/-! the class's search -/
theorem runW_keep {S : Sc} {P : Nat → Int} {wd : Nat} (hP : okP P) (h8 : S.1 ≤ 8) : ∀ f Z, AI S Z → ∀ x, x ∈ Z.1 → x ∈ (runW S P wd f Z).1 ∧ (runW S P wd f Z).2.2.1 x = Z.2.2.1 x ∧ (runW S P wd f Z).2.2.2 x = Z.2.2.2 x
  | 0, Z, h, x, hx => ⟨hx, rfl, rfl⟩
  | f + 1, Z, h, x, hx => by
    cases e : nxtW Z (2 ^ S.1) with
    | none => rw [runW_none e]; exact ⟨hx, rfl, rfl⟩
    | some s =>
      rw [runW_some e]
      have st := AI_step (wd := wd) hP h8 h e
      have hm : x ∈ Z.1 ++ [s] := List.mem_append.mpr (Or.inl hx)
      have q := runW_keep (wd := wd) hP h8 f (stepW S P wd Z s) st.1 x hm
      refine ⟨q.1, by rw [q.2.1]; exact st.2.2.2 x hm, ?_⟩
      rw [q.2.2]
      exact if_neg (fun e : x = s => st.2.2.1 (e ▸ hx))
/-- what a filled table says -/
def tabC (S : Sc) (th : Int) (c0 : Nat) (F : AT) (σ : Sg) : Prop := (∀ x, x < 2 ^ S.1 → wnt th x → (x ∈ F.1 → σ (c0 + 4) x ≠ -1 ∧ σ (c0 + 1) x = (F.2.2.1 x).1 ∧ σ (c0 + 2) x = (F.2.2.2 x : Int) ∧ σ (c0 + 3) x = wyI (F.2.2.1 x)) ∧ (x ∉ F.1 → σ (c0 + 4) x = -1)) ∧ (th = 0 → σ c0 6 = (F.1.length : Int))
theorem tab_of {S : Sc} {P : Nat → Int} {wd d c0 : Nat} {Y Z : AT} {dr th : Int} {σ : Sg} (hP : okP P) (h8 : S.1 ≤ 8) (h : AI S Z) (hr : relZ dr Y Z) (hs : srC c0 Y σ) (hF : runW S P wd d Z = srchW S P wd) (he : (∀ x, x < 2 ^ S.1 → wnt th x → x ∈ Z.1) ∨ Z = srchW S P wd) (h0 : th = 0 → Z = srchW S P wd) : tabC S th c0 (srchW S P wd) σ := by
  have p8 := pow_lt8 h8
  obtain ⟨r1, r2, r3, r4, r5, r6⟩ := hr
  refine ⟨fun x hx hw => ?_, fun z => ?_⟩
  · have q := hs.1 x (by omega)
    have kp := fun hm => runW_keep (wd := wd) hP h8 d Z h x hm
    rw [hF] at kp
    constructor
    · intro hm
      have hz : x ∈ Z.1 := by
        rcases he with he | he
        · exact he x hx hw
        · rw [he]; exact hm
      have k := kp hz
      have hy : x ∈ Y.1 := by rw [r1]; exact hz
      have e := r4 x hz
      rw [k.2.1, k.2.2, ← e, ← r3]
      refine ⟨by have := (q.1 hy).2; omega, q.2.2.1, (q.1 hy).1, q.2.2.2 ?_⟩
      rw [e]; exact h.fin x hz
    · intro hm
      have hz : x ∉ Z.1 := fun y => hm (kp y).1
      exact q.2.1 (by rw [r1]; exact hz)
  · rw [hs.2.2.2, r1, h0 z]
def frT9 (c0 : Nat) (σ σ' : Sg) : Prop := ∀ c k, ¬ (c = c0 ∧ (k = 6 ∨ k = 7 ∨ k = 9 ∨ k = 10 ∨ k = 11)) → ¬ (c0 + 1 ≤ c ∧ c ≤ c0 + 6) → σ' c k = σ c k
theorem s_fill9 {X : Cx} {c0 : Nat} {σ : Sg} {Q : Int → Sg → Prop} {S : Sc} {P : Nat → Int} {wd : Nat} {th : Int} (hw : isW c0) (hA : atC S σ) (hS : okS S) (hP : okP P) (hp : ∀ w, w < 15 → σ 11 w = P w) (hwd : wd < 32768) (hth : th = 0 ∨ th = 1) (K : ∀ σ', frT9 c0 σ σ' → σ' c0 7 = (wd : Int) → tabC S th c0 (srchW S P wd) σ' → Q 0 σ') : KX9_fill X c0 wd th σ Q := by
  have hg := isW_ge hw
  have hway := hw.way
  obtain ⟨h8, hR, hB, hap, -⟩ := hS
  have p8 := pow_lt8 h8
  have p0 := Nat.two_pow_pos S.1
  have fa : ((F_all S : Nat) : Int) = ((2 ^ S.1 : Nat) : Int) - 1 := by unfold F_all; omega
  refine eX9_fill (rX9_fill_0 hway fun _ => ⟨by omega, hth, ?_⟩)
  have fr0 : frT9 c0 σ (up2 (up2 σ c0 7 wd) c0 9 th) := fun c k a b => by rw [up2_a _ _ (by omega), up2_a _ _ (by omega)]
  have e7 : (up2 (up2 σ c0 7 wd) c0 9 th) c0 7 = (wd : Int) := by rw [up2_nk _ _ (by decide), up2_s]
  have e9 : (up2 (up2 σ c0 7 wd) c0 9 th) c0 9 = th := up2_s _ _ _ _
  generalize up2 (up2 σ c0 7 wd) c0 9 th = σ0 at *
  have hA0 : atC S σ0 := hA.frame fun c k z => fr0 c k (by omega) (by omega)
  have hp0 : ∀ w, w < 15 → σ0 11 w = P w := fun w hw' => by rw [fr0 11 w (by omega) (by omega)]; exact hp w hw'
  have done : ∀ σ1, frY c0 σ0 σ1 → tabC S th c0 (srchW S P wd) σ1 → Q 0 σ1 := fun σ1 f1 t1 => K σ1 (fun c k a b => by rw [f1 c k (by omega) b]; exact fr0 c k a b) (by rw [f1 c0 7 (by omega) (by omega)]; exact e7) t1
  refine s_start hw hA0 hR hP hp0 hwd e7 fun σ1 f1 s1 l1 => fun _ => s_all (f1.atC hw hA0) fun _ => ?_
  rw [fa]
  have loop : ∀ d r, r + d = 2 ^ S.1 → ∀ (Y Z : AT) (dr : Int) (σ1 : Sg), frY c0 σ0 σ1 → srC c0 Y σ1 → ljOK P wd (σ1 c0 11) 15 → relZ dr Y Z → AI S Z → Z.1.length = r → runW S P wd d Z = srchW S P wd → (∀ x, x < 2 ^ S.1 → x ∉ Z.1 → wnt th x → (Y.2.2.1 x).1 ≤ dr) → GX9_fill_26 X c0 wd th (((2 ^ S.1 : Nat) : Int) - 1) r σ1 Q := by
    intro d
    induction d with
    | zero =>
      intro r hr Y Z dr σ1 f1 s1 lj1 rel hAI hlen hF hwn
      have hr : r = 2 ^ S.1 := by omega
      rw [hr]
      generalize 2 ^ S.1 = N at *
      refine rX9_fill_26 hway fun _ => ⟨by omega, by omega, fun _ => done σ1 f1 ?_, fun z => by omega⟩
      exact tab_of hP h8 hAI rel s1 hF (Or.inr hF) fun _ => hF
    | succ d ih =>
      intro r hr Y Z dr σ1 f1 s1 lj1 rel hAI hlen hF hwn
      have hYo : okZ Y := rel.2.2.2.2.2
      have hZo := hAI.okZ h8
      have c9 : σ1 c0 9 = th := by rw [f1 c0 9 (by omega) (by omega)]; exact e9
      have r1 := rel.1
      have dF := drF_is (th := th) (fun x => (hYo.2.2.2.1 x).2.1) (Z := Y) (2 ^ S.1)
      have rN : r < 2 ^ S.1 := by omega
      have bN : inI (r : Int) ∧ inI (((2 ^ S.1 : Nat) : Int) - 1) ∧ ¬ (((2 ^ S.1 : Nat) : Int) - 1 < (r : Int)) := by
        generalize 2 ^ S.1 = N at *
        omega
      refine rX9_fill_26 hway fun _ => ⟨bN.1, bN.2.1, fun z => absurd z bN.2.2, fun _ => s_nearest hw hYo s1 ⟨p0, p8⟩ c9 fun σ2 f2 e2 => fun _ => ?_⟩
      have g2 : frY c0 σ0 σ2 := f1.trans fun c k a b => f2 c k (by omega)
      have s2 : srC c0 Y σ2 := srC_frame s1 fun c k hc => f2 c k (by omega)
      by_cases hm : drF Y th (2 ^ S.1) = -1
      · rw [if_pos hm]
        refine ⟨by decide, fun z => absurd rfl z, fun _ => done σ2 g2 ?_⟩
        have all : ∀ x, x < 2 ^ S.1 → wnt th x → x ∈ Z.1 := fun x hx hwx => Decidable.byContradiction fun hn => by
          have := dF.2.2 x hx (by rw [r1]; exact hn) hwx
          have := (hYo.2.2.2.1 x).2.1
          omega
        refine tab_of hP h8 hAI rel s2 hF (Or.inl all) fun h0 => ?_
        rw [← hF, runW_none]
        have is := nxtW_is Z (2 ^ S.1)
        cases en : nxtW Z (2 ^ S.1) with
        | none => rfl
        | some k =>
          rw [en] at is
          exact absurd (all k is.1 (Or.inl h0)) is.2.1
      · rw [if_neg hm]
        have hle : drF Y th (2 ^ S.1) ≤ dr := by
          obtain ⟨u, hu, hun, huw, hue⟩ := dF.1.resolve_left hm
          have := hwn u hu (by rw [← r1]; exact hun) huw
          omega
        obtain ⟨nxe, nxs⟩ := near_same rel hZo hle hm
        unfold nxI
        rw [nxe]
        have is := nxtW_is Z (2 ^ S.1)
        cases en : nxtW Z (2 ^ S.1) with
        | none =>
          refine ⟨by decide, fun z => absurd rfl z, fun _ => done σ2 g2 ?_⟩
          have e : Z = srchW S P wd := by rw [← hF, runW_none en]
          exact tab_of hP h8 hAI rel s2 hF (Or.inr e) fun _ => e
        | some s =>
          rw [en] at is
          obtain ⟨hsN, hsD, hsc, -⟩ := is
          have he := nxs s en
          have rel' := rel.mono hle
          have hwn' : ∀ x, x < 2 ^ S.1 → x ∉ Z.1 → wnt th x → (Y.2.2.1 x).1 ≤ drF Y th (2 ^ S.1) := fun x hx hn hwx => dF.2.2 x hx (by rw [r1]; exact hn) hwx
          have st := AI_step (wd := wd) hP h8 hAI en
          have e10 : σ2 c0 10 = drF Y th (2 ^ S.1) := e2
          clear dF hwn rel
          generalize drF Y th (2 ^ S.1) = dr' at *
          obtain ⟨l1', l2', q1, q2, q3, q4, q5, q6⟩ := AI_pos2 h8 hAI hsD hsc
          have yW : ∀ o, o ∈ Z.1 → Y.2.2.1 o = Z.2.2.1 o := rel'.2.2.2.1
          have r2 := rel'.2.1
          have r3 := rel'.2.2.1
          have hiv : insW Y.2.1 Y.2.2.1 s Y.2.1 = insW Z.2.1 Z.2.2.1 s Z.2.1 := by
            rw [r2]
            exact insW_congr he _ fun o ho => yW o ((hAI.mem o).mp ho)
          have hZs := ins_ok (L := Z.2.2.2) h8 hAI hsN hsD hsc
          have onD : ∀ x, x ∈ Z.1 ++ [s] → Y.2.2.1 x = Z.2.2.1 x := fun x hx => by
            rcases List.mem_append.mp hx with q | q
            · exact yW x q
            · rw [List.mem_singleton.mp q]; exact he
          have hYs : okZ (stZ Y s) := by
            refine ⟨?_, fun x => ?_, fun x hx => ?_, fun x => ⟨?_, (hYo.2.2.2.1 x).2⟩, fun x hx => ?_⟩
            · show (insW Y.2.1 Y.2.2.1 s Y.2.1).length ≤ 256
              rw [hiv]; exact hZs.1
            · show x ∈ insW Y.2.1 Y.2.2.1 s Y.2.1 ↔ x ∈ Y.1 ++ [s]
              rw [hiv, r1]; exact hZs.2.1 x
            · have hx : x ∈ Y.1 ++ [s] := hx
              rw [r1] at hx
              exact hZs.2.2.1 x hx
            · have hw1 : shpT Y.2.1 (Y.2.2.1 x) := (hYo.2.2.2.1 x).1
              have sub : ∀ x, x ∈ Y.2.1 → x ∈ insW Y.2.1 Y.2.2.1 s Y.2.1 := fun x hx => by
                rw [hiv]
                rw [r2] at hx
                exact (hZs.2.1 x).mpr (List.mem_append.mpr (Or.inl ((hAI.mem x).mp hx)))
              exact ⟨hw1.1, hw1.2.1, fun z => ⟨sub _ (hw1.2.2.1 z).1, (hw1.2.2.1 z).2⟩, fun z => ⟨sub _ (hw1.2.2.2 z).1, sub _ (hw1.2.2.2 z).2⟩⟩
            · have hx : x ∈ Y.1 ++ [s] := hx
              rw [r1] at hx
              show (Y.2.2.1 x).1 < 1000
              rw [onD x hx]
              exact hZs.2.2.2.2 x hx
          have s256 : s < 256 := by omega
          have zl := hAI.len
          have hone : cnt (fun x => decide (x ∉ Z.1)) (2 ^ S.1) = cnt (fun x => decide (x ∉ Z.1 ++ [s])) (2 ^ S.1) + 1 := cnt_one _ hsN (by simpa using hsD) (by simp) fun t ht => by simp [ht]
          refine ⟨by simp only []; omega, fun _ => ?_, fun z => by simp only [] at z; omega⟩
          refine s_reach (l1 := l1') (l2 := l2') hw hYo s2 (by rw [r2, r1]; exact hAI.rlen) (by rw [r1]; omega) s256 (by rw [r1]; exact hsD) (by rw [he]; exact hsc) (by rw [r2]; exact q1) (by rw [hiv]; exact q2) q3 (fun o ho => ?_) (fun o ho => ?_) (by rw [r2]; exact q6) (fun x hx => ?_) fun σ3 f3 g3 s3 => fun _ => ?_
          · rw [r2, he, yW o ((hAI.mem o).mp (by rw [q1]; exact List.mem_append.mpr (Or.inl ho)))]; exact q4 o ho
          · rw [r2, he, yW o ((hAI.mem o).mp (by rw [q1]; exact List.mem_append.mpr (Or.inr ho)))]; exact q5 o ho
          · rw [r1] at hx
            rw [r3]
            have := (hAI.lng x hx).2.1
            have := hAI.fin x hx
            omega
          · have g4 : frY c0 σ0 σ3 := g2.trans f3
            have k7 : σ3 c0 7 = (wd : Int) := by rw [g4 c0 7 (by omega) (by omega)]; exact e7
            have k10 : σ3 c0 10 = dr' := by rw [g3 10 (by decide)]; exact e10
            have k11 : σ3 c0 11 = σ1 c0 11 := by rw [g3 11 (by decide)]; exact f2 c0 11 (by omega)
            have hsm : s ∈ (stZ Y s).1 := by show s ∈ Y.1 ++ [s]; simp
            refine s_turn (S := S) (dr := dr') (D := (stZ Y s).1) (R := (stZ Y s).2.1) (W := (stZ Y s).2.2.1) (Ln := (stZ Y s).2.2.2) hw (g4.atC hw hA0) hR hap hP (g4.prc hw hp0) hwd k7 k10 hYs s3 hsm fun l σ4 f4 tsub tcov s4 => fun _ => ?_
            have g5 : frY c0 σ0 σ4 := g4.trans f4.toY
            have lok : ∀ f ∈ l, shpT (stZ Y s).2.1 f.2 ∧ 1 ≤ f.2.1 := fun f hf => by
              obtain ⟨w, h1, h2, h3, rfl⟩ := offT_mem.mp (tsub f hf)
              have e : 8 * w / 8 = w := by omega
              have q := hP w h1
              have w1 : 1 ≤ (Y.2.2.1 s).1 := (hYo.2.2.2.1 s).2.1
              refine ⟨⟨by show 8 * w < 120; omega, fun z => ?_, fun _ => ⟨(hYs.2.1 s).mpr hsm, rfl⟩, fun z => ?_⟩, by show 1 ≤ (Y.2.2.1 s).1 + P w; omega⟩
              · have z : prt (8 * w / 8) = 0 := z
                rw [e] at z; omega
              · have z : prt (8 * w / 8) = 2 := z
                rw [e] at z; omega
            have hord : ((stZ Y s).1).Pairwise (fun a b => ((stZ Y s).2.2.1 a).1 ≤ ((stZ Y s).2.2.1 b).1) := by
              show (Y.1 ++ [s]).Pairwise (fun a b => (Y.2.2.1 a).1 ≤ (Y.2.2.1 b).1)
              rw [r1]
              refine (show (Z.1 ++ [s]).Pairwise _ from st.1.ord).imp_of_mem fun {a b} ha hb hab => ?_
              rw [st.2.2.2 a ha, st.2.2.2 b hb] at hab
              rw [onD a ha, onD b hb]; exact hab
            have hDl : ((stZ Y s).1).length ≤ 256 := by
              show (Y.1 ++ [s]).length ≤ 256
              rw [r1]; exact st.1.small h8
            refine s_joinAll (wd := wd) (dr := dr') (D := (stZ Y s).1) (R := (stZ Y s).2.1) (W := (stZ Y s).2.2.1) (Ln := (stZ Y s).2.2.2) hw hP (g5.prc hw hp0) hwd (by rw [f4 c0 7 (by omega) (by omega)]; exact k7) (by rw [f4 c0 10 (by omega) (by omega)]; exact k10) (by rw [f4 c0 11 (by omega) (by omega), k11]; exact lj1) hYs lok s4 hsm hDl hord fun l' σ5 f5 up jsub jcov s5 => fun _ => ?_
            have stp := step_rel (wd := wd) (l := l') hP h8 hAI rel' en he hwn' hYs (fun f hf => ?_) (fun f hf hd => ?_)
            · refine ih (r + 1) (by omega) _ (stepW S P wd Z s) dr' σ5 (g5.trans f5.toY) s5 ?_ stp.1 st.1 ?_ ?_ stp.2
              · rw [f5 c0 11 (by omega) (by omega), f4 c0 11 (by omega) (by omega), k11]; exact lj1
              · show (Z.1 ++ [s]).length = r + 1
                rw [List.length_append, List.length_singleton, hlen]
              · rw [← hF, runW_some en]
            · rcases jsub f hf with y | y
              · exact List.mem_append.mpr (Or.inl (tsub f y))
              · exact List.mem_append.mpr (Or.inr y)
            · rcases List.mem_append.mp hf with y | y
              · exact ⟨f, up f (tcov f y hd), rfl, rfl, Int.le_refl _⟩
              · exact jcov f y hd
  exact loop (2 ^ S.1) 0 (by omega) (startW S P wd) (startW S P wd) 1000 σ1 f1 s1 l1 ⟨rfl, rfl, rfl, fun _ _ => rfl, fun _ _ => Or.inl rfl, (AI_start hP).okZ h8⟩ (AI_start hP) rfl rfl fun x _ _ _ => ((AI_start (wd := wd) (S := S) hP).way x).2.2
