theorem refW_sub {S : Sc} {P : Nat → Int} {wd : Nat} {W : Nat → WT} {D : List Nat} {s w : Nat} (hD : ∀ o, o ∈ D → o < 2 ^ S.1) (hw : w < 15) {f : OF} (h : f ∈ refL S P wd W D s w ∨ f ∈ refW S P wd W D s w) : f ∈ offT S P wd W s ++ offJ P wd W D s := by
  rw [← refL_mem hD]
  unfold refL at h ⊢
  rcases h with h | h
  · obtain ⟨u, hu, hf⟩ := List.mem_flatMap.mp h
    exact List.mem_flatMap.mpr ⟨u, List.mem_range.mpr (by have := List.mem_range.mp hu; omega), hf⟩
  · exact List.mem_flatMap.mpr ⟨w, List.mem_range.mpr hw, h⟩
theorem m_steps {X : Cx} {σ : Sg} {Q : Int → Sg → Prop} {S : Sc} {P : Nat → Int} {wd : Nat} {Z : AT} {s : Nat} {L' : Nat → Nat} (hM : atM S σ) (hS : okS S) (hP : okP P) (hp : ∀ w, w < 15 → σ 76 w = P w) (hwd : wd < 32768) (h : AI S Z) (hsN : s < 2 ^ S.1) (hsD : s ∉ Z.1) (hsc : (Z.2.2.1 s).1 < 1000) (hs : srM (Z.1 ++ [s], insW Z.2.1 Z.2.2.1 s Z.2.1, Z.2.2.1, L') σ) (K : ∀ σ', frZ σ σ' → srM (plW (Z.1 ++ [s]) (insW Z.2.1 Z.2.2.1 s Z.2.1) Z.2.2.1 L' (refL S P wd Z.2.2.1 (Z.1 ++ [s]) s 15)) σ' → KX12_cheapestLeft X σ' (fun r3 σ4 => Rng σ4 → GX12_search_117 X wd r3 σ4 Q)) : GX12_search_129 X wd s 4 σ Q := by
  obtain ⟨h8, hR, hB, hap, -⟩ := hS
  have p8 := pow_lt8 h8
  have hZs : okZ (Z.1 ++ [s], insW Z.2.1 Z.2.2.1 s Z.2.1, Z.2.2.1, L') := ins_ok h8 h hsN hsD hsc
  have hlow : ∀ t, t ∈ Z.1 ++ [s] → (Z.2.2.1 t).1 ≤ (Z.2.2.1 s).1 := fun t ht => by
    rcases List.mem_append.mp ht with q | q
    · exact h.low t q s hsN hsD
    · rw [List.mem_singleton.mp q]; exact Int.le_refl _
  have hDN : ∀ o, o ∈ Z.1 ++ [s] → o < 2 ^ S.1 := fun o ho => by
    rcases List.mem_append.mp ho with q | q
    · exact h.lt o q
    · rw [List.mem_singleton.mp q]; exact hsN
  have hfin : ∀ o, o ∈ Z.1 ++ [s] → 1 ≤ (Z.2.2.1 o).1 ∧ (Z.2.2.1 o).1 < 1000 := fun o ho => ⟨(h.way o).2.1, hZs.2.2.2.2 o ho⟩
  have hsm : s ∈ Z.1 ++ [s] := by simp
  have hoff := off_ok (S := S) (P := P) (wd := wd) (s := s) (W := Z.2.2.1) (D := Z.1 ++ [s]) (R := insW Z.2.1 Z.2.2.1 s Z.2.1) hP (fun x => (h.way x).2.1) ((hZs.2.1 s).mpr hsm) (fun o ho => (hZs.2.1 o).mpr ho)
  generalize hD' : Z.1 ++ [s] = D at *
  generalize hR' : insW Z.2.1 Z.2.2.1 s Z.2.1 = R at *
  generalize hW' : Z.2.2.1 = W at *
  have fa : ((F_all S : Nat) : Int) = ((2 ^ S.1 : Nat) : Int) - 1 := by have := Nat.two_pow_pos S.1; unfold F_all; omega
  have rs : ∀ (w : Nat) (f : OF), w < 15 → (f ∈ refL S P wd W D s w ∨ f ∈ refW S P wd W D s w) → f ∈ offT S P wd W s ++ offJ P wd W D s := fun w f hw hf => refW_sub hDN hw hf
  generalize hN : 2 ^ S.1 = N at *
  have mem' : ∀ w, w < 15 → ∀ l : List OF, (∀ f ∈ l, f ∈ refL S P wd W D s w ∨ f ∈ refW S P wd W D s w) → ∀ f ∈ l, shpT R f.2 ∧ 1 ≤ f.2.1 := fun w hw l hl f hf => by
    have o := hoff f (rs w f hw (hl f hf))
    exact ⟨o.2.1, by have := (hfin s hsm).1; omega⟩
  have cst : ∀ (l : List OF) (σ2 : Sg), srM (plW D R W L' l) σ2 → ∀ x, x ∈ D → σ2 84 x = (W x).1 := fun l σ2 h2 x hx => by
    have q := (h2 x (by have := hDN x hx; omega)).1
    rw [plW_D hx, if_pos (hfin x hx).2] at q
    exact q
  have prc : ∀ σ2, frZ σ σ2 → ∀ w, w < 15 → σ2 76 w = P w := fun σ2 f w hw => by rw [f 76 w (by omega)]; exact hp w hw
  have at2 : ∀ σ2, frZ σ σ2 → atM S σ2 := fun σ2 f => hM.frame fun c k z => f c k (by omega)
  have loop : ∀ d w, w + d = 15 → 4 ≤ w → ∀ σ2, frZ σ σ2 → srM (plW D R W L' (refL S P wd W D s w)) σ2 → GX12_search_129 X wd s w σ2 Q := by
    intro d
    induction d with
    | zero =>
      intro w hw h4 σ2 f2 s2
      have hw : w = 15 := by omega
      subst hw
      exact rX12_search_129 fun _ => ⟨by decide, fun _ => K σ2 f2 s2, fun z => absurd z (by decide)⟩
    | succ d ih =>
      intro w hw h4 σ2 f2 s2
      have hw15 : w < 15 := by omega
      have eL : refL S P wd W D s (w + 1) = refL S P wd W D s w ++ refW S P wd W D s w := flat_succ _ _ ()
      have nx := ih (w + 1) (by omega) (by omega)
      rw [eL] at nx
      have hb := bit_is (a := wd) (i := w) (by omega) (by omega)
      have hq := hP w hw15
      have hpl := prt_le w
      have skip : (prt w = 2 → wd.testBit w = false) → ∀ σ3, frZ σ σ3 → srM (plW D R W L' (refL S P wd W D s w ++ refW S P wd W D s w)) σ3 → GX12_search_182 X wd s w σ3 Q := by
        intro hn σ3 f3 s3
        have out : GX12_search_307 X wd s w 0 σ3 Q := rX12_search_307 fun _ => nx σ3 f3 s3
        refine rX12_search_182 fun _ => rX12_search_185 fun _ => m_every (at2 σ3 f3) fun _ => ⟨by omega, by omega, fun _ => out, fun _ => m_needs hw15 fun _ => ⟨by omega, fun _ => out, fun z => ⟨fun _ => out, fun y => ?_⟩⟩⟩
        have := hn (by omega)
        rw [hb.mp y] at this
        cases this
      refine rX12_search_129 fun _ => ⟨by omega, fun z => by omega, fun _ => ⟨fun z => ?_, fun z => ?_⟩⟩
      · have hb0 : wd.testBit w = false := by
          cases e : wd.testBit w with
          | false => rfl
          | true => exact absurd (hb.mpr e) z
        refine skip (fun _ => hb0) σ2 f2 ?_
        have e0 : refW S P wd W D s w = [] := by unfold refW; rw [hb0]; rfl
        rw [e0, List.append_nil]
        exact s2
      · have hb1 := hb.mp z
        refine m_needs hw15 fun _ => ⟨by omega, fun y => ?_, fun y => ?_⟩
        · rcases prt_3 w with p | p | p
          · exfalso
            unfold prt at p
            rw [if_neg (by omega)] at p
            split at p <;> omega
          · omega
          · have e2 : refW S P wd W D s w = (List.range N).flatMap (refJ P W D w s) := by unfold refW; rw [if_pos hb1, if_neg (by omega), if_pos p, hN]
            have w567 : w = 5 ∨ w = 6 ∨ w = 7 := by
              unfold prt at p
              rw [if_neg (by omega)] at p
              split at p
              · assumption
              · omega
            have mk : ∀ a b, F_made S w a b = F_join w a b := fun a b => by unfold F_made; rw [if_pos w567]
            have jl : ∀ d2 o, o + d2 = N → ∀ σ3, frZ σ σ3 → srM (plW D R W L' (refL S P wd W D s w ++ (List.range o).flatMap (refJ P W D w s))) σ3 → GX12_search_185 X wd s w o σ3 Q := by
              intro d2
              induction d2 with
              | zero =>
                intro o ho σ3 f3 s3
                have ho : o = N := by omega
                have s4 : srM (plW D R W L' (refL S P wd W D s w ++ refW S P wd W D s w)) σ3 := by rw [e2, ← ho]; exact s3
                exact rX12_search_185 fun _ => m_every (at2 σ3 f3) fun _ => ⟨by omega, by omega, fun _ => rX12_search_307 fun _ => nx σ3 f3 s4, fun z => by omega⟩
              | succ d2 ih2 =>
                intro o ho σ3 f3 s3
                have n2 := ih2 (o + 1) (by omega)
                rw [flat_succ _ _ (), ← List.append_assoc] at n2
                have sub : ∀ f, f ∈ (List.range o).flatMap (refJ P W D w s) ∨ f ∈ refJ P W D w s o → f ∈ refW S P wd W D s w := fun f hf => by
                  rw [e2]
                  rcases hf with hf | hf
                  · obtain ⟨u, hu, hf⟩ := List.mem_flatMap.mp hf
                    exact List.mem_flatMap.mpr ⟨u, List.mem_range.mpr (by have := List.mem_range.mp hu; omega), hf⟩
                  · exact List.mem_flatMap.mpr ⟨o, List.mem_range.mpr (by omega), hf⟩
                have oN : o < N := by omega
                have s3o := (s3 o (by omega)).2.2.1
                have l1 : ∀ f ∈ refL S P wd W D s w ++ (List.range o).flatMap (refJ P W D w s), f ∈ refL S P wd W D s w ∨ f ∈ refW S P wd W D s w := fun f hf => by
                  rcases List.mem_append.mp hf with q | q
                  · exact Or.inl q
                  · exact Or.inr (sub f (Or.inl q))
                generalize refL S P wd W D s w ++ (List.range o).flatMap (refJ P W D w s) = l at *
                refine rX12_search_185 fun _ => m_every (at2 σ3 f3) fun _ => ⟨by omega, by omega, fun z => by omega, fun _ => m_needs hw15 fun _ => ⟨by omega, fun z => absurd (by omega) z, fun _ => ⟨fun z => absurd (hb.mpr hb1) z, fun _ => ⟨by omega, ?_⟩⟩⟩⟩
                rw [show σ3 90 ((o : Int).toNat) = _ from s3o]
                by_cases m : o ∈ D
                · have eJ : refJ P W D w s o = [(F_join w s o, ((W s).1 + (W o).1 + P w, 8 * w, s, o)), (F_join w o s, ((W s).1 + (W o).1 + P w, 8 * w, o, s))] := by unfold refJ; rw [if_pos m]; rfl
                  rw [eJ] at n2 sub
                  have m1 := sub _ (Or.inr List.mem_cons_self)
                  have m2 := sub _ (Or.inr (List.mem_cons_of_mem _ List.mem_cons_self))
                  have o1 := hoff _ (rs w _ hw15 (Or.inr m1))
                  have o2 := hoff _ (rs w _ hw15 (Or.inr m2))
                  have hs1 := hfin s hsm
                  have ho1 := hfin o m
                  have lows := hlow
                  refine ⟨fun z => absurd ((if_pos m : (if o ∈ D then (1 : Int) else 0) = 1).symm.trans z) (by decide), fun _ => m_made (at2 σ3 f3) hR hB hap ⟨h4, hw15⟩ (by omega) (by omega) fun _ => ⟨by omega, by omega, by omega, ?_⟩⟩
                  rw [mk, show σ3 84 ((s : Int).toNat) = _ from cst _ σ3 s3 s hsm, show σ3 84 ((o : Int).toNat) = _ from cst _ σ3 s3 o m, show σ3 76 ((w : Int).toNat) = _ from prc σ3 f3 w hw15, show (8 * (w : Int)) = ((8 * w : Nat) : Int) by omega]
                  refine m_put (v := ((W s).1 + (W o).1 + P w, 8 * w, s, o)) hZs (mem' w hw15 _ l1) s3 (F_join_lt (by omega) (by omega)) o1.2.1 ⟨by show 1 ≤ (W s).1 + (W o).1 + P w; omega, by show (W s).1 + (W o).1 + P w < 100000; omega⟩ (fun hD => by have := hlow _ hD; show _ ≤ (W s).1 + (W o).1 + P w; omega) fun σ4 f4 s4 => fun _ => ?_
                  have f4 := f3.trans f4
                  refine m_made (at2 σ4 f4) hR hB hap ⟨h4, hw15⟩ (by omega) (by omega) fun _ => ⟨by omega, by omega, by omega, ?_⟩
                  rw [mk, show σ4 84 ((s : Int).toNat) = _ from cst _ σ4 s4 s hsm, show σ4 84 ((o : Int).toNat) = _ from cst _ σ4 s4 o m, show σ4 76 ((w : Int).toNat) = _ from prc σ4 f4 w hw15]
                  refine m_put (v := ((W s).1 + (W o).1 + P w, 8 * w, o, s)) hZs (mem' w hw15 _ fun f hf => ?_) s4 (F_join_lt (by omega) (by omega)) o2.2.1 ⟨by show 1 ≤ (W s).1 + (W o).1 + P w; omega, by show (W s).1 + (W o).1 + P w < 100000; omega⟩ (fun hD => by have := hlow _ hD; show _ ≤ (W s).1 + (W o).1 + P w; omega) fun σ5 f5 s5 => fun _ => rX12_search_301 fun _ => n2 σ5 (f4.trans f5) ?_
                  · rcases List.mem_append.mp hf with q | q
                    · exact l1 f q
                    · rw [List.mem_singleton.mp q]; exact Or.inr m1
                  · rw [List.append_assoc] at s5; exact s5
                · have eJ : refJ P W D w s o = [] := by unfold refJ; rw [if_neg m]
                  rw [eJ, List.append_nil] at n2
                  exact ⟨fun _ => rX12_search_301 fun _ => n2 σ3 f3 s3, fun z => absurd (if_neg m) z⟩
            refine rX12_search_182 fun _ => jl N 0 (by omega) σ2 f2 ?_
            show srM (plW D R W L' (refL S P wd W D s w ++ [])) σ2
            rw [List.append_nil]; exact s2
        · have p1 : prt w = 1 := by omega
          have n567 : ¬ (w = 5 ∨ w = 6 ∨ w = 7) := fun q => by
            unfold prt at p1
            rw [if_neg (by omega), if_pos q] at p1
            omega
          have e1 : refW S P wd W D s w = [(F_turn S w s, ((W s).1 + P w, 8 * w, s, 0))] := by unfold refW; rw [if_pos hb1, if_pos p1]
          have mk : F_made S w s 0 = F_turn S w s := by unfold F_made; rw [if_neg n567]
          have o := hoff _ (rs w (F_turn S w s, ((W s).1 + P w, 8 * w, s, 0)) hw15 (Or.inr (by rw [e1]; exact List.mem_singleton.mpr rfl)))
          have hs1 := hfin s hsm
          refine m_made (b := 0) (at2 σ2 f2) hR hB hap ⟨h4, hw15⟩ (by omega) (by decide) fun _ => ⟨by omega, by omega, ?_⟩
          rw [mk, show σ2 84 ((s : Int).toNat) = _ from cst _ σ2 s2 s hsm, show σ2 76 ((w : Int).toNat) = _ from prc σ2 f2 w hw15, show (8 * (w : Int)) = ((8 * w : Nat) : Int) by omega]
          refine m_put (v := ((W s).1 + P w, 8 * w, s, 0)) hZs (mem' w hw15 _ fun f hf => Or.inl hf) s2 (F_turn_lt h8 (by omega)) o.2.1 ⟨by show 1 ≤ (W s).1 + P w; omega, by show (W s).1 + P w < 100000; omega⟩ (fun hD => by have := hlow _ hD; show _ ≤ (W s).1 + P w; omega) fun σ3 f3 s3 => fun _ => skip (fun q => by omega) σ3 (f2.trans f3) ?_
          rw [e1]; exact s3
  have e4 : refL S P wd W D s 4 = [] := by
    have : ∀ w, w < 4 → refW S P wd W D s w = [] := fun w hw => by
      unfold refW
      have p0 : prt w = 0 := by unfold prt; rw [if_pos hw]
      rw [p0]
      split <;> rfl
    show refW S P wd W D s 0 ++ (refW S P wd W D s 1 ++ (refW S P wd W D s 2 ++ (refW S P wd W D s 3 ++ []))) = []
    rw [this 0 (by decide), this 1 (by decide), this 2 (by decide), this 3 (by decide)]
    rfl
  exact loop 11 4 rfl (Nat.le_refl _) σ (fun _ _ _ => rfl) (by rw [e4]; exact hs)
theorem plW_step {S : Sc} {P : Nat → Int} {wd : Nat} {Z : AT} {s : Nat} (hP : okP P) (h8 : S.1 ≤ 8) (h : AI S Z) (hsN : s < 2 ^ S.1) (hsD : s ∉ Z.1) (hsc : (Z.2.2.1 s).1 < 1000) : plW (Z.1 ++ [s]) (insW Z.2.1 Z.2.2.1 s Z.2.1) Z.2.2.1 (fun x => if x = s then lenW Z.2.2.2 (Z.2.2.1 s) else Z.2.2.2 x) (refL S P wd Z.2.2.1 (Z.1 ++ [s]) s 15) = stepW S P wd Z s := by
  have hZs := ins_ok (L := Z.2.2.2) h8 h hsN hsD hsc
  have hDN : ∀ o, o ∈ Z.1 ++ [s] → o < 2 ^ S.1 := fun o ho => by
    rcases List.mem_append.mp ho with q | q
    · exact h.lt o q
    · rw [List.mem_singleton.mp q]; exact hsN
  have hoff := off_ok (S := S) (P := P) (wd := wd) (s := s) (W := Z.2.2.1) (D := Z.1 ++ [s]) (R := insW Z.2.1 Z.2.2.1 s Z.2.1) hP (fun x => (h.way x).2.1) ((hZs.2.1 s).mpr (show s ∈ Z.1 ++ [s] by simp)) (fun o ho => (hZs.2.1 o).mpr ho)
  have e := app_same (R := insW Z.2.1 Z.2.2.1 s Z.2.1) (D := Z.1 ++ [s]) (W := Z.2.2.1) (l1 := offT S P wd Z.2.2.1 s ++ offJ P wd Z.2.2.1 (Z.1 ++ [s]) s) (l2 := refL S P wd Z.2.2.1 (Z.1 ++ [s]) s 15) hZs.1 (fun f hf => (hoff f hf).2.1) (fun x => (hZs.2.2.2.1 x).1) (fun f hf => (refL_mem hDN f).mp hf) (fun f hf => (refL_mem hDN f).mpr hf)
  unfold plW stepW
  rw [e]
theorem m_search {X : Cx} {σ : Sg} {Q : Int → Sg → Prop} {S : Sc} {P : Nat → Int} {wd : Nat} (hM : atM S σ) (hS : okS S) (hP : okP P) (hp : ∀ w, w < 15 → σ 76 w = P w) (hwd : wd < 32768) (K : ∀ σ', frZ σ σ' → srM (srchW S P wd) σ' → Q 0 σ') : KX12_search X wd σ Q := by
  have h8 := hS.1
  have p8 := pow_lt8 h8
  have at2 : ∀ σ2, frZ σ σ2 → atM S σ2 := fun σ2 f => hM.frame fun c k z => f c k (by omega)
  have prc : ∀ σ2, frZ σ σ2 → ∀ w, w < 15 → σ2 76 w = P w := fun σ2 f w hw => by rw [f 76 w (by omega)]; exact hp w hw
  have main : ∀ f Z σ1, AI S Z → Z.1.length + f = 2 ^ S.1 → frZ σ σ1 → srM Z σ1 → (∀ σ', frZ σ σ' → srM (runW S P wd f Z) σ' → Q 0 σ') → KX12_cheapestLeft X σ1 (fun r3 σ4 => Rng σ4 → GX12_search_117 X wd r3 σ4 Q) := by
    intro f
    induction f with
    | zero =>
      intro Z σ1 h hl f1 s1 K1
      refine m_cheapestLeft (at2 σ1 f1) (h.okZ h8) s1 fun _ => ?_
      unfold nxI
      rw [AI_full h (by omega)]
      exact rX12_search_117 fun _ => ⟨by decide, fun _ => K1 σ1 f1 s1, fun z => absurd rfl z⟩
    | succ f ih =>
      intro Z σ1 h hl f1 s1 K1
      refine m_cheapestLeft (at2 σ1 f1) (h.okZ h8) s1 fun _ => ?_
      unfold nxI
      cases e : nxtW Z (2 ^ S.1) with
      | none =>
        refine rX12_search_117 fun _ => ⟨by decide, fun _ => K1 σ1 f1 ?_, fun z => absurd rfl z⟩
        rw [runW_none e]; exact s1
      | some s =>
        have hn := nxtW_is Z (2 ^ S.1)
        rw [e] at hn
        obtain ⟨hsN, hsD, hsc, -⟩ := hn
        have st := AI_step (wd := wd) hP h8 h e
        refine rX12_search_117 fun _ => ⟨by simp only []; omega, fun z => by simp only [] at z; omega, fun _ => m_settle (at2 σ1 f1) h s1 hsN hsD hsc fun σ2 f2 s2 => fun _ => ?_⟩
        have g2 : frZ σ σ2 := f1.trans fun c k z => f2 c k (by omega)
        refine m_steps (at2 σ2 g2) hS hP (prc σ2 g2) hwd h hsN hsD hsc s2 fun σ3 f3 s3 => ?_
        rw [plW_step hP h8 h hsN hsD hsc] at s3
        refine ih _ σ3 st.1 ?_ (g2.trans f3) s3 fun σ' f' s' => K1 σ' f' ?_
        · show (Z.1 ++ [s]).length + f = _
          rw [List.length_append, List.length_singleton]; omega
        · rw [runW_some e]; exact s'
  have okN : okZ (([], [], (fun _ => noneW), (fun _ => 0)) : AT) := ⟨by decide, fun x => Iff.rfl, fun x hx => absurd hx List.not_mem_nil, fun x => ⟨noneW_ok _, by show (1 : Int) ≤ 1000; decide, by show (1000 : Int) ≤ 1000; decide⟩, fun x hx => absurd hx List.not_mem_nil⟩
  have goff := offN_ok (S := S) (P := P) (wd := wd) hP
  -- the words without parts
  have nm : ∀ w, w < 4 → (List.range (w + 1)).flatMap (fun w => if wd.testBit w then hearL w else []) = (List.range w).flatMap (fun w => if wd.testBit w then hearL w else []) ++ (if wd.testBit w then hearL w else []) := fun w _ => flat_succ _ _ ()
  have sub : ∀ w, w < 4 → ∀ c, (c ∈ (List.range w).flatMap (fun w => if wd.testBit w then hearL w else []) ∨ c ∈ (if wd.testBit w then hearL w else [])) → (F_named S c, (P (c / 8), c, 0, 0)) ∈ offN S P wd := fun w hw c hc => by
    unfold offN nameL
    refine List.mem_map.mpr ⟨c, ?_, rfl⟩
    rcases hc with hc | hc
    · obtain ⟨u, hu, hc⟩ := List.mem_flatMap.mp hc
      exact List.mem_flatMap.mpr ⟨u, List.mem_range.mpr (by have := List.mem_range.mp hu; omega), hc⟩
    · exact List.mem_flatMap.mpr ⟨w, List.mem_range.mpr hw, hc⟩
  have l0 : ∀ d w, w + d = 4 → ∀ σ1, frZ σ σ1 → srM (plW [] [] (fun _ => noneW) (fun _ => 0) (((List.range w).flatMap (fun w => if wd.testBit w then hearL w else [])).map (fun c => (F_named S c, (P (c / 8), c, 0, 0))))) σ1 → GX12_search_38 X wd w σ1 Q := by
    intro d
    induction d with
    | zero =>
      intro w hw σ1 f1 s1
      have hw : w = 4 := by omega
      subst hw
      exact rX12_search_38 fun _ => ⟨by decide, fun _ => main (2 ^ S.1) (startW S P wd) σ1 (AI_start hP) (by show 0 + _ = _; omega) f1 s1 K, fun z => absurd z (by decide)⟩
    | succ d ih =>
      intro w hw σ1 f1 s1
      have nx := ih (w + 1) (by omega)
      rw [nm w (by omega), List.map_append] at nx
      have hb := bit_is (a := wd) (i := w) (by omega) (by omega)
      have hL : hearL w = (List.range (max 1 (nms w))).map (fun v => 8 * w + v) := rfl
      have mx : 1 ≤ max 1 (nms w) ∧ max 1 (nms w) ≤ 4 := by have := nms_le w; omega
      have g45 : ∀ v σ2, GX12_search_64 X wd w v ((max 1 (nms w) : Nat) : Int) v σ2 Q → GX12_search_45 X wd w v σ2 Q := by
        intro v σ2 hg
        have hw4 : w = 0 ∨ w = 1 ∨ w = 2 ∨ w = 3 := by omega
        refine rX12_search_45 fun _ => ⟨by omega, fun z => ⟨by omega, fun z2 => ?_, fun z2 => ?_⟩, fun z => ?_⟩
        · rcases hw4 with rfl | rfl | rfl | rfl
          · exact absurd rfl z
          · exact hg
          · exact hg
          · exact absurd rfl z2
        · have : w = 3 := by omega
          subst this
          exact hg
        · have : w = 0 := by omega
          subst this
          exact hg
      generalize max 1 (nms w) = mxv at *
      have inner : ∀ d2 v, v + d2 = mxv → ∀ σ2, frZ σ σ2 → srM (plW [] [] (fun _ => noneW) (fun _ => 0) (((List.range w).flatMap (fun w => if wd.testBit w then hearL w else [])).map (fun c => (F_named S c, (P (c / 8), c, 0, 0))) ++ ((List.range v).map (fun v => 8 * w + v)).map (fun c => (F_named S c, (P (c / 8), c, 0, 0))))) σ2 → wd.testBit w = true → GX12_search_45 X wd w v σ2 Q := by
        intro d2
        induction d2 with
        | zero =>
          intro v hv σ2 f2 s2 hb1
          have hv : v = mxv := by omega
          refine g45 v σ2 (rX12_search_64 fun _ => ⟨by omega, by omega, fun _ => rX12_search_106 fun _ => nx σ2 f2 ?_, fun z => by omega⟩)
          rw [if_pos hb1, hL, ← hv]
          exact s2
        | succ d2 ih2 =>
          intro v hv σ2 f2 s2 hb1
          have n2 := ih2 (v + 1) (by omega)
          rw [List.range_succ, List.map_append, List.map_append, ← List.append_assoc] at n2
          have mm := sub w (by omega) (8 * w + v) (Or.inr (by rw [if_pos hb1, hL]; exact List.mem_map.mpr ⟨v, List.mem_range.mpr (by omega), rfl⟩))
          have o := goff _ mm
          have e8 : (8 * w + v) / 8 = w := by omega
          rw [e8] at o mm
          refine g45 v σ2 (rX12_search_64 fun _ => ⟨by omega, by omega, fun z => by omega, fun _ => ⟨fun z => absurd (hb.mpr hb1) z, fun _ => m_allOf (at2 σ2 f2) hS.2.1 (by omega) (by omega) fun _ => ⟨by omega, ?_⟩⟩⟩)
          rw [show σ2 76 ((w : Int).toNat) = _ from prc σ2 f2 w (by omega), show (8 * (w : Int)) + (v : Int) = ((8 * w + v : Nat) : Int) by omega]
          refine m_put (v := (P w, 8 * w + v, 0, 0)) okN (fun f hf => ?_) s2 (F_named_lt h8 _) o.2.1 ⟨o.2.2.1, by have h9 : P w ≤ 9 := o.2.2.2.1; show P w < 100000; omega⟩ (fun hD => by cases hD) fun σ3 f3 s3 => fun _ => n2 σ3 (f2.trans f3) ?_ hb1
          · have : f ∈ offN S P wd := by
              rcases List.mem_append.mp hf with q | q
              · obtain ⟨c, hc, rfl⟩ := List.mem_map.mp q
                exact sub w (by omega) c (Or.inl hc)
              · obtain ⟨c, hc, rfl⟩ := List.mem_map.mp q
                refine sub w (by omega) c (Or.inr ?_)
                rw [if_pos hb1, hL]
                obtain ⟨u, hu, rfl⟩ := List.mem_map.mp hc
                exact List.mem_map.mpr ⟨u, List.mem_range.mpr (by have := List.mem_range.mp hu; omega), rfl⟩
            have := goff f this
            exact ⟨this.2.1, this.2.2.1⟩
          · show srM (plW [] [] (fun _ => noneW) (fun _ => 0) (_ ++ [(F_named S (8 * w + v), (P ((8 * w + v) / 8), 8 * w + v, 0, 0))])) σ3
            rw [e8]; exact s3
      refine rX12_search_38 fun _ => ⟨by omega, fun z => by omega, fun _ => ?_⟩
      cases e : wd.testBit w with
      | true =>
        refine inner mxv 0 (by omega) σ1 f1 ?_ e
        rw [show ((List.range 0).map (fun v => 8 * w + v)) = [] from rfl, List.map_nil, List.append_nil]
        exact s1
      | false =>
        refine g45 0 σ1 (rX12_search_64 fun _ => ⟨by omega, by omega, fun z => by omega, fun _ => ⟨fun _ => rX12_search_106 fun _ => nx σ1 f1 ?_, fun z => ?_⟩⟩)
        · rw [e, if_neg (by decide), List.map_nil, List.append_nil]
          exact s1
        · have := hb.mp z
          rw [e] at this
          cases this
  have clear' : ∀ d k, k + d = 256 → ∀ σ1, frZ σ σ1 → (∀ x, x < k → σ1 84 x = -1 ∧ σ1 90 x = 0) → GX12_search_2 X wd k σ1 Q := by
    intro d
    induction d with
    | zero =>
      intro k hk σ1 f1 z1
      refine rX12_search_2 fun _ => ⟨by omega, fun _ => l0 4 0 rfl σ1 f1 ?_, fun z => by omega⟩
      intro x hx
      have q := z1 x (by omega)
      refine ⟨by rw [q.1]; rfl, fun z => absurd z (by show ¬ (1000 : Int) < 1000; decide), by rw [q.2]; rfl, fun z => by cases z⟩
    | succ d ih =>
      intro k hk σ1 f1 z1
      refine rX12_search_2 fun _ => ⟨by omega, fun z => by omega, fun _ => ⟨by omega, by omega, by omega, ih (k + 1) (by omega) _ (fun c j z => ?_) fun x hx => ?_⟩⟩
      · rw [up2_nc _ _ (by omega), up2_nc _ _ (by omega), up2_nc _ _ (by omega)]
        exact f1 c j z
      · rw [show ((k : Int).toNat) = k from rfl, up2_nc _ _ (show (84 : Nat) ≠ 89 by decide), up2_nc _ _ (show (84 : Nat) ≠ 90 by decide), up2_nc _ _ (show (90 : Nat) ≠ 89 by decide)]
        by_cases e : x = k
        · rw [e, up2_s, up2_s]; exact ⟨rfl, rfl⟩
        · rw [up2_nk _ _ e, up2_nk _ _ e, up2_nc _ _ (show (90 : Nat) ≠ 84 by decide)]
          exact z1 x (by omega)
  exact eX12_search (rX12_search_0 fun _ => clear' 256 0 rfl σ (fun _ _ _ => rfl) fun x hx => by omega)
