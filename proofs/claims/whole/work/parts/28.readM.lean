/-! the reference's words and its reading -/
theorem jc0 (x y : Int) : jcmp x y = 0 ↔ x = y := by
  unfold jcmp
  constructor
  · intro h
    split at h
    · omega
    · split at h <;> omega
  · rintro rfl
    rw [if_neg (by omega), if_pos rfl]
theorem m_wordTold {X : Cx} {σ : Sg} {Q : Int → Sg → Prop} {t : Int} (ht : σ 69 12 = t) (hj : inJ t) (k : Q (if wT t = 15 then -1 else (wT t : Nat)) σ) : KX12_wordTold X σ Q := by
  have kw : ∀ w : Nat, w < 15 → t = Wc w → Q (w : Int) σ := by
    intro w hw e
    have := wT_Wc w hw
    rw [← e] at this
    rw [this, if_neg (by omega)] at k
    exact k
  have kn : (∀ w, w < 15 → t ≠ Wc w) → Q (-1) σ := by
    intro h
    rw [wT_no h] at k
    exact k
  have end197 : ∀ lo hi : Int, ((lo = -1 ∧ ∀ w, w < 8 → t ≠ Wc w) ∨ ∃ w : Nat, w < 8 ∧ t = Wc w ∧ lo = w) → ((hi = -1 ∧ ∀ w, 8 ≤ w → w < 15 → t ≠ Wc w) ∨ ∃ w : Nat, w < 15 ∧ t = Wc w ∧ hi = w) → GX12_wordTold_197 X t lo hi σ Q := by
    intro lo hi h1 h2
    refine rX12_wordTold_197 fun _ => ⟨?_, fun hl => ?_, fun hl => ?_⟩
    · rcases h1 with ⟨e, -⟩ | ⟨w, hw, -, e⟩ <;> omega
    · rcases h1 with ⟨e, -⟩ | ⟨w, hw, e1, e⟩
      · exact absurd e hl
      · rw [e]; exact kw w (by omega) e1
    · rcases h2 with ⟨e, h2⟩ | ⟨w, hw, e1, e⟩
      · rcases h1 with ⟨e1, h1⟩ | ⟨w, hw, e1, e1'⟩
        · rw [e]
          refine kn fun w hw => ?_
          rcases Nat.lt_or_ge w 8 with z | z
          · exact h1 w z
          · exact h2 w z hw
        · omega
      · rw [e]; exact kw w hw e1
  have end104 : ∀ lo : Int, ((lo = -1 ∧ ∀ w, w < 8 → t ≠ Wc w) ∨ ∃ w : Nat, w < 8 ∧ t = Wc w ∧ lo = w) → GX12_wordTold_104 X t lo σ Q := by
    intro lo h1
    refine rX12_wordTold_104 fun _ => ?_
    refine ⟨hj, fun n8 => ?_, fun e => end197 lo 8 h1 (Or.inr ⟨8, by decide, (jc0 _ _).mp e, rfl⟩)⟩
    refine ⟨hj, fun n9 => ?_, fun e => end197 lo 9 h1 (Or.inr ⟨9, by decide, (jc0 _ _).mp e, rfl⟩)⟩
    refine ⟨hj, fun n10 => ?_, fun e => end197 lo 10 h1 (Or.inr ⟨10, by decide, (jc0 _ _).mp e, rfl⟩)⟩
    refine ⟨hj, fun n11 => ?_, fun e => end197 lo 11 h1 (Or.inr ⟨11, by decide, (jc0 _ _).mp e, rfl⟩)⟩
    refine ⟨hj, fun n12 => ?_, fun e => end197 lo 12 h1 (Or.inr ⟨12, by decide, (jc0 _ _).mp e, rfl⟩)⟩
    refine ⟨hj, fun n13 => ?_, fun e => end197 lo 13 h1 (Or.inr ⟨13, by decide, (jc0 _ _).mp e, rfl⟩)⟩
    refine ⟨hj, fun n14 => ?_, fun e => end197 lo 14 h1 (Or.inr ⟨14, by decide, (jc0 _ _).mp e, rfl⟩)⟩
    refine end197 lo (-1) h1 (Or.inl ⟨rfl, fun w a c => ?_⟩)
    rcases (show w = 8 ∨ w = 9 ∨ w = 10 ∨ w = 11 ∨ w = 12 ∨ w = 13 ∨ w = 14 by omega) with rfl | rfl | rfl | rfl | rfl | rfl | rfl
    · exact fun z => n8 ((jc0 _ _).mpr z)
    · exact fun z => n9 ((jc0 _ _).mpr z)
    · exact fun z => n10 ((jc0 _ _).mpr z)
    · exact fun z => n11 ((jc0 _ _).mpr z)
    · exact fun z => n12 ((jc0 _ _).mpr z)
    · exact fun z => n13 ((jc0 _ _).mpr z)
    · exact fun z => n14 ((jc0 _ _).mpr z)
  refine eX12_wordTold (rX12_wordTold_0 fun _ => ?_)
  rw [ht]
  refine ⟨fun n0 => ?_, fun e => end104 0 (Or.inr ⟨0, by decide, (jc0 _ _).mp e, rfl⟩)⟩
  refine ⟨fun n1 => ?_, fun e => end104 1 (Or.inr ⟨1, by decide, (jc0 _ _).mp e, rfl⟩)⟩
  refine ⟨fun n2 => ?_, fun e => end104 2 (Or.inr ⟨2, by decide, (jc0 _ _).mp e, rfl⟩)⟩
  refine ⟨fun n3 => ?_, fun e => end104 3 (Or.inr ⟨3, by decide, (jc0 _ _).mp e, rfl⟩)⟩
  refine ⟨fun n4 => ?_, fun e => end104 4 (Or.inr ⟨4, by decide, (jc0 _ _).mp e, rfl⟩)⟩
  refine ⟨fun n5 => ?_, fun e => end104 5 (Or.inr ⟨5, by decide, (jc0 _ _).mp e, rfl⟩)⟩
  refine ⟨fun n6 => ?_, fun e => end104 6 (Or.inr ⟨6, by decide, (jc0 _ _).mp e, rfl⟩)⟩
  refine ⟨fun n7 => ?_, fun e => end104 7 (Or.inr ⟨7, by decide, (jc0 _ _).mp e, rfl⟩)⟩
  refine end104 (-1) (Or.inl ⟨rfl, fun w c => ?_⟩)
  rcases (show w = 0 ∨ w = 1 ∨ w = 2 ∨ w = 3 ∨ w = 4 ∨ w = 5 ∨ w = 6 ∨ w = 7 by omega) with rfl | rfl | rfl | rfl | rfl | rfl | rfl | rfl
  · exact fun z => n0 ((jc0 _ _).mpr z)
  · exact fun z => n1 ((jc0 _ _).mpr z)
  · exact fun z => n2 ((jc0 _ _).mpr z)
  · exact fun z => n3 ((jc0 _ _).mpr z)
  · exact fun z => n4 ((jc0 _ _).mpr z)
  · exact fun z => n5 ((jc0 _ _).mpr z)
  · exact fun z => n6 ((jc0 _ _).mpr z)
  · exact fun z => n7 ((jc0 _ _).mpr z)
def frR (σ σ' : Sg) : Prop := ∀ c k, ¬ (c = 69 ∧ 10 ≤ k ∧ k ≤ 16) → c ≠ 78 → c ≠ 79 → σ' c k = σ c k
theorem frR.trans {σ σ1 σ2 : Sg} (h1 : frR σ σ1) (h2 : frR σ1 σ2) : frR σ σ2 := fun c k a b d => (h2 c k a b d).trans (h1 c k a b d)
theorem frN.toR {σ σ' : Sg} (h : frN σ σ') : frR σ σ' := fun c k a b d => h c k (by omega)
theorem hasM.frame {L : List Nat} {σ σ' : Sg} (h : hasM L σ) (hf : ∀ c k, (c = 69 ∧ k = 16) ∨ c = 78 ∨ c = 79 → σ' c k = σ c k) : hasM L σ' := ⟨by rw [hf 69 16 (by omega)]; exact h.1, h.2.1, fun i hi => by rw [hf 78 i (by omega), hf 79 i (by omega)]; exact h.2.2 i hi⟩
theorem m_fails {X : Cx} {σ : Sg} {Q : Int → Sg → Prop} (k : Q 0 (up2 σ 69 15 (σ 69 11))) : KX12_fails X σ Q := eX12_fails (rX12_fails_0 fun _ => k)
theorem TK_pos {b : Nat → Int} {n q : Nat} {t num : Int} (h : TK b n q t num) (hall : ∀ i, q ≤ i → i < tend b n q → isL (b q) = true → isL (b i) = true) : t ≠ -2 ∧ inJ t ∧ (if wT t = 15 then 15 else wT t) = wAt b q (tend b n q) := by
  have hgt := tend_gt b n q
  have neg : t = -4 ∨ t = -1 → wT t = 15 := by
    intro z
    exact wT_no fun v hv e => by have := Wc_pos v hv; omega
  by_cases hL : isL (b q) = true
  · rcases h.1 hL with ⟨h1, h2⟩ | ⟨h1, h2⟩
    · have hr : ∀ i, i < tend b n q - q → 1 ≤ b (q + i) - 96 ∧ b (q + i) - 96 ≤ 26 := fun i hi => let_rng (hall (q + i) (by omega) (by omega) hL)
      have p := (Vs_pos (x := fun i => b (q + i) - 96) _ hr).2 (by omega)
      have l := Vs_le (x := fun i => b (q + i) - 96) _ hr
      have b3 : (27 : Int) ^ (tend b n q - q) ≤ 27 ^ 9 := (show ∀ m, m ≤ 9 → (27 : Int) ^ m ≤ 27 ^ 9 by decide) _ h1
      have b4 : (27 : Int) ^ 9 < 9223372036854775808 := by decide
      have e : t = Vs (fun i => b (q + i) - 96) (tend b n q - q) := h2
      have w := wT_tok (fun i a c => hall i a c hL) hgt
      rw [← h2] at w
      refine ⟨by omega, ⟨by omega, by omega⟩, ?_⟩
      rw [w]; split <;> omega
    · rw [neg (Or.inl h2), wAt_long (by omega)]
      exact ⟨by omega, by omega, rfl⟩
  · by_cases hD : isD (b q) = true
    · have : t = -1 ∨ t = -4 := by
        rcases h.2.1 hL hD with ⟨-, z, -⟩ | ⟨-, z⟩
        · exact Or.inl z
        · exact Or.inr z
      rw [neg (by omega), wAt_noL hgt hL]
      exact ⟨by omega, by omega, rfl⟩
    · have := h.2.2 hL hD
      rw [neg (Or.inl this), wAt_noL hgt hL]
      exact ⟨by omega, by omega, rfl⟩
theorem tend_all {b : Nat → Int} {n q : Nat} : ∀ i, q ≤ i → i < tend b n q → isL (b q) = true → isL (b i) = true := by
  intro i h1 h2 hL
  unfold tend at h2
  rw [if_pos hL] at h2
  by_cases e : i = q
  · rw [e]; exact hL
  · exact run_all (by omega) h2
theorem nms_is {w : Nat} (hw : w < 15) : (w = 1 ∨ w = 2 ∨ w = 3 ↔ 0 < nms w) ∧ (w = 1 → nms w = 4) ∧ (w = 2 → nms w = 4) ∧ (w = 3 → nms w = 3) := by
  have key : ∀ w, w < 15 → ((w = 1 ∨ w = 2 ∨ w = 3 ↔ 0 < nms w) ∧ (w = 1 → nms w = 4) ∧ (w = 2 → nms w = 4) ∧ (w = 3 → nms w = 3)) := by decide +kernel
  exact key w hw
theorem m_isRead {X : Cx} {σ : Sg} {Q : Int → Sg → Prop} {b : Nat → Int} {n : Nat} (h : txM σ b n) (k0 : ∀ (x : Nat) σ', frR σ σ' → prsT b n = .inl x → σ' 69 15 = (x : Int) → Q 0 σ') (k1 : ∀ L σ', frR σ σ' → hasM L σ' → prsT b n = .inr L → Q 1 σ') : KX12_isRead X σ Q := by
  have h160 := h.2.1
  have fail : ∀ (x : Nat) (σ1 : Sg), frR σ σ1 → σ1 69 11 = (x : Int) → prsT b n = .inl x → ∀ T : Int → Sg → Prop, (∀ σ', Q 0 σ' → T 0 σ') → KX12_fails X σ1 T := by
    intro x σ1 hf h11 hp T hT
    refine m_fails (hT _ (k0 x _ (fun c j a d e => ?_) hp ?_))
    · rw [up2_a _ _ (by omega)]; exact hf c j a d e
    · rw [up2_s]; exact h11
  have loop : ∀ (f p due : Nat) (cs : List Nat) (σ1 : Sg), p ≤ n → n - p < f → frR σ σ1 → hasM cs.reverse σ1 → σ1 69 10 = (p : Int) → due ≤ cs.length + 1 → prs b n f p due 0 cs = prsT b n → GX12_isRead_12 X due σ1 Q := by
    intro f
    induction f using Nat.strongRecOn with
    | _ f ih =>
    intro p due cs σ1 hpn hf hfr hM h10 hdl hp
    have ht := h.frame (σ' := σ1) fun c j hc => hfr c j (by omega) (by omega) (by omega)
    have hml := hM.2.1
    rw [List.length_reverse] at hml
    match f, hf, ih, hp with
    | f + 1, hf, ih, hp =>
    unfold prs at hp
    have hskg := run_ge (fun x => decide (x = 32)) b n p
    have hskl := run_le (p := fun x => decide (x = 32)) (b := b) hpn
    refine rX12_isRead_12 fun _ => ⟨by omega, fun hz => ?_, fun hz => ?_⟩
    · have hd0 : due = 0 := by omega
      subst hd0
      refine m_nextToken ht h10 hpn fun σ' hf' e11 hn1 hn2 _ => ?_
      have hfr' := hfr.trans hf'.toR
      by_cases hq : skp b n p = n
      · rw [if_pos hq, if_pos ⟨rfl, rfl⟩] at hp
        rw [(hn1 hq).1]
        exact ⟨fun _ => k1 _ σ' hfr' (hM.frame fun c j hc => hf' c j (by omega)) hp.symm, fun z => absurd (by decide : jcmp (-2) (-2) = 0) z⟩
      · have hq' : skp b n p < n := by
          have : skp b n p ≤ n := hskl
          omega
        rw [if_neg hq, if_neg (by omega), if_pos rfl] at hp
        obtain ⟨e10, tk⟩ := hn2 hq'
        have tp := TK_pos tk tend_all
        refine ⟨fun z => absurd ((jc0 _ _).mp z) tp.1, fun _ => ?_⟩
        exact fail _ σ' hfr' e11 hp.symm _ fun σ2 hQ _ => ⟨by decide, fun _ => hQ, fun z => absurd rfl z⟩
    · refine m_nextToken ht h10 hpn fun σ' hf' e11 hn1 hn2 _ => ?_
      have hfr' := hfr.trans hf'.toR
      have hM' : hasM cs.reverse σ' := hM.frame fun c j hc => hf' c j (by omega)
      by_cases hq : skp b n p = n
      · rw [if_pos hq, if_neg (by omega)] at hp
        refine m_wordTold (hn1 hq).1 (by decide) fun _ => ?_
        rw [show wT (-2) = 15 from by decide +kernel, if_pos rfl]
        refine ⟨by decide, fun _ => ?_, fun z => absurd rfl z⟩
        rw [hq] at e11
        exact rX12_isRead_39 fun _ => fail n σ' hfr' e11 hp.symm _ fun σ2 hQ _ => ⟨Or.inl rfl, hQ⟩
      · have hq' : skp b n p < n := by
          have : skp b n p ≤ n := hskl
          omega
        have hpq : p ≤ skp b n p := hskg
        have hnp : 1 ≤ n - p := by omega
        rw [if_neg hq, if_neg (by omega), if_neg (by omega)] at hp
        obtain ⟨e10, tk⟩ := hn2 hq'
        obtain ⟨tp1, tp2, tp3⟩ := TK_pos tk tend_all
        have htg := tend_gt b n (skp b n p)
        have htl := tend_le (b := b) hq'
        refine m_wordTold rfl tp2 fun _ => ?_
        have ew : wT (σ' 69 12) = wAt b (skp b n p) (tend b n (skp b n p)) := by
          rw [← tp3]; split <;> omega
        rw [ew]
        generalize hw : wAt b (skp b n p) (tend b n (skp b n p)) = w at *
        by_cases hw15 : w = 15
        · rw [if_pos hw15]
          rw [if_pos (Or.inl hw15)] at hp
          refine ⟨by decide, fun _ => ?_, fun z => absurd rfl z⟩
          exact rX12_isRead_39 fun _ => fail _ σ' hfr' e11 hp.symm _ fun σ2 hQ _ => ⟨Or.inl rfl, hQ⟩
        · rw [if_neg hw15]
          have hwl : w < 15 := by
            rcases wAt_is b (skp b n p) (tend b n (skp b n p)) with ⟨z, -⟩ | ⟨z, -⟩ <;> omega
          have hml' := hM'.1
          rw [List.length_reverse] at hml'
          refine ⟨by omega, fun z => by omega, fun _ => ⟨fun h24 => ?_, fun h24 => ?_⟩⟩
          · rw [if_neg (by omega)] at hp
            have hsto : ∀ own : Nat, own < 8 → ∀ σ2 : Sg, (∀ c j, c ≠ 78 → c ≠ 79 → ¬ (c = 69 ∧ 10 ≤ j ∧ j ≤ 14) → σ2 c j = σ' c j) → (∀ i, i ≠ cs.length → σ2 78 i = σ' 78 i ∧ σ2 79 i = σ' 79 i) → σ2 78 cs.length = (w : Int) → σ2 79 cs.length = (own : Int) → ∀ e2 : Nat, e2 ≤ n → σ2 69 10 = (e2 : Int) → ∀ f', f' < f + 1 → n - e2 < f' → prs b n f' e2 (due + prt w - 1) 0 ((8 * w + own) :: cs) = prsT b n → GX12_isRead_129 X due w σ2 Q := by
              intro own ho σ2 hf2 hi2 h78 h79 e2 he2 he10 f' hff hnf hpp
              have hpl := prt_le w
              refine rX12_isRead_129 fun _ => ?_
              rw [hf2 69 16 (by omega) (by omega) (by omega), hml']
              refine ⟨by omega, m_needs hwl fun _ => ?_⟩
              have := ih f' hff e2 (due + prt w - 1) ((8 * w + own) :: cs) (up2 σ2 69 16 ((cs.length : Int) + 1)) he2 hnf (fun c j a d e => by
                  rw [up2_a _ _ (by omega), hf2 c j d e (by omega)]; exact hfr' c j a d e) ⟨by rw [up2_s]; simp, by simp; omega, fun i hi => ?_⟩ (by rw [up2_nk _ _ (by decide)]; exact he10) (by simp; omega) hpp
              · rw [show ((due : Int) + (((prt w : Nat) : Int) - 1)) = ((due + prt w - 1 : Nat) : Int) by omega]
                exact this
              · rw [up2_nc _ _ (by decide), up2_nc _ _ (by decide)]
                rw [List.reverse_cons]
                by_cases z : i = cs.length
                · subst z
                  have hg : (cs.reverse ++ [8 * w + own]).getD cs.length 0 = 8 * w + own := by
                    have := getD_app1 (L := cs.reverse) (x := 8 * w + own)
                    rwa [List.length_reverse] at this
                  rw [hg, h78, h79]
                  omega
                · have hi' : i < cs.reverse.length := by simp at hi ⊢; omega
                  rw [getD_app hi', (hi2 i z).1, (hi2 i z).2]
                  exact hM'.2.2 i hi'
            have ez : (σ' 69 16).toNat = cs.length := by rw [hml']; rfl
            refine ⟨by omega, by omega, by omega, by omega, ?_⟩
            rw [ez]
            generalize hσ3 : up2 (up2 σ' 78 cs.length (w : Int)) 79 cs.length 0 = σ3
            have f3 : ∀ c j, c ≠ 78 → c ≠ 79 → σ3 c j = σ' c j := fun c j a d => by rw [← hσ3, up2_nc _ _ d, up2_nc _ _ a]
            have i3 : ∀ i, i ≠ cs.length → σ3 78 i = σ' 78 i ∧ σ3 79 i = σ' 79 i := fun i hi => by
              rw [← hσ3]
              refine ⟨?_, ?_⟩
              · rw [up2_nc _ _ (by decide), up2_nk _ _ hi]
              · rw [up2_nk _ _ hi, up2_nc _ _ (by decide)]
            have a3 : σ3 78 cs.length = (w : Int) := by rw [← hσ3, up2_nc _ _ (by decide), up2_s]
            have b3 : σ3 79 cs.length = ((0 : Nat) : Int) := by rw [← hσ3, up2_s]; rfl
            obtain ⟨n1, n2, n3, n4⟩ := nms_is hwl
            have plain : nms w = 0 → GX12_isRead_129 X due w σ3 Q := fun z => by
              rw [z] at hp
              exact hsto 0 (by decide) σ3 (fun c j a d _ => f3 c j a d) i3 a3 b3 _ htl (by rw [f3 69 10 (by decide) (by decide)]; exact e10) f (by omega) (by omega) hp
            have numb : 0 < nms w → GX12_isRead_79 X due w σ3 Q := fun z => by
              have ht3 := h.frame (σ' := σ3) fun c j hc => by rw [f3 c j (by omega) (by omega)]; exact hfr' c j (by omega) (by omega) (by omega)
              have h3_10 : σ3 69 10 = ((tend b n (skp b n p) : Nat) : Int) := by rw [f3 69 10 (by decide) (by decide)]; exact e10
              refine rX12_isRead_79 fun _ => m_nextToken ht3 h3_10 htl fun σ4 hf4 g11 gn1 gn2 _ => ?_
              have hfr4 : frR σ σ4 := fun c j a d e => by
                rw [hf4 c j (by omega), f3 c j d e]; exact hfr' c j a d e
              have hskg2 := run_ge (fun x => decide (x = 32)) b n (tend b n (skp b n p))
              have hskl2 := run_le (p := fun x => decide (x = 32)) (b := b) htl
              generalize hp1 : tend b n (skp b n p) = p1 at *
              match f, hf, ih, hp with
              | 0, hf, ih, hp => exact absurd hf (Nat.not_lt.mpr hnp)
              | f + 1, hf, ih, hp =>
              unfold prs at hp
              by_cases hq2 : skp b n p1 = n
              · rw [if_pos hq2, if_neg (by omega)] at hp
                rw [(gn1 hq2).1]
                rw [hq2] at g11
                exact ⟨fun _ => rX12_isRead_111 fun _ => fail n σ4 hfr4 g11 hp.symm _ fun σ5 hQ _ => ⟨Or.inl rfl, hQ⟩, fun y => absurd y (by decide)⟩
              · have hq2' : skp b n p1 < n := by
                  have : skp b n p1 ≤ n := hskl2
                  omega
                have hpq2 : p1 ≤ skp b n p1 := hskg2
                rw [if_neg hq2, if_pos z] at hp
                obtain ⟨e10', tk'⟩ := gn2 hq2'
                generalize hq2e : skp b n p1 = q2 at *
                have htg2 := tend_gt b n q2
                have htl2 := tend_le (b := b) hq2'
                have hn4 := nms_le w
                refine ⟨fun hne => ?_, fun heq => ?_⟩
                · have hne' : σ4 69 12 ≠ -1 := fun y => hne ((jc0 _ _).mpr y)
                  have hc : ¬ (tend b n q2 = q2 + 1 ∧ 48 ≤ b q2 ∧ b q2 - 48 < (nms w : Nat)) := by
                    rintro ⟨c1, c2, c3⟩
                    have hD : isD (b q2) = true := by unfold isD; simp; omega
                    have hL : ¬ isL (b q2) = true := fun y => by have := isL_notD y; rw [hD] at this; exact absurd this (by decide)
                    rcases tk'.2.1 hL hD with ⟨-, y, -⟩ | ⟨y, -⟩
                    · exact hne' y
                    · exact y c1
                  rw [if_neg hc] at hp
                  exact rX12_isRead_111 fun _ => fail _ σ4 hfr4 g11 hp.symm _ fun σ5 hQ _ => ⟨Or.inl rfl, hQ⟩
                · have heq' : σ4 69 12 = -1 := (jc0 _ _).mp heq
                  have hL : ¬ isL (b q2) = true := fun y => by
                    rcases tk'.1 y with ⟨c1, c2⟩ | ⟨-, c2⟩
                    · have := (Vs_pos (x := fun i => b (q2 + i) - 96) (tend b n q2 - q2) (fun i hi => let_rng (tend_all (b := b) (n := n) (q2 + i) (by omega) (by omega) y))).1
                      have e : σ4 69 12 = Vs (fun i => b (q2 + i) - 96) (tend b n q2 - q2) := c2
                      omega
                    · omega
                  have hD : isD (b q2) = true := by
                    cases y : isD (b q2) with
                    | true => rfl
                    | false => have := tk'.2.2 hL (by rw [y]; decide); omega
                  have hDr : 48 ≤ b q2 ∧ b q2 ≤ 57 := by unfold isD at hD; simpa using hD
                  obtain ⟨c1, c2⟩ : tend b n q2 = q2 + 1 ∧ σ4 69 14 = b q2 - 48 := by
                    rcases tk'.2.1 hL hD with ⟨c1, -, c2⟩ | ⟨-, c2⟩
                    · exact ⟨c1, c2⟩
                    · omega
                  have step : ∀ mx : Int, mx + 1 = (nms w : Nat) → GX12_isRead_108 X due w mx (σ4 69 14) σ4 Q := by
                    intro mx hmx
                    rw [c2]
                    refine rX12_isRead_108 fun _ => ⟨by omega, by omega, fun hle => ?_, fun hgt => ?_⟩
                    · rw [if_pos ⟨c1, hDr.1, by omega⟩] at hp
                      have e16 : σ4 69 16 = (cs.length : Int) := by rw [hf4 69 16 (by omega), f3 69 16 (by decide) (by decide)]; exact hml'
                      rw [e16, c2]
                      refine ⟨by omega, ?_⟩
                      rw [show ((cs.length : Int).toNat) = cs.length from rfl]
                      refine hsto (b q2 - 48).toNat (by omega) _ (fun c j a d e => ?_) (fun i hi => ?_) ?_ ?_ _ htl2 (by rw [up2_nc _ _ (by decide)]; exact e10') f (by omega) (by omega) hp
                      · rw [up2_nc _ _ d, hf4 c j (by omega), f3 c j a d]
                      · rw [up2_nc _ _ (by decide), up2_nk _ _ hi, hf4 78 i (by omega), hf4 79 i (by omega)]
                        exact i3 i hi
                      · rw [up2_nc _ _ (by decide), hf4 78 _ (by omega)]; exact a3
                      · rw [up2_s]; omega
                    · rw [if_neg (by omega)] at hp
                      exact rX12_isRead_111 fun _ => fail _ σ4 hfr4 g11 hp.symm _ fun σ5 hQ _ => ⟨Or.inl rfl, hQ⟩
                  refine ⟨by omega, fun y => step 3 ?_, fun y => step 2 ?_⟩
                  · rcases n1.mpr z with y1 | y1 | y1
                    · rw [n2 y1]; rfl
                    · rw [n3 y1]; rfl
                    · omega
                  · rw [n4 (by omega)]; rfl
            refine ⟨fun y => numb (n1.mp (by omega)), fun y => ⟨by omega, fun y2 => numb (n1.mp (by omega)), fun y2 => ⟨by omega, fun y3 => plain ?_, fun y3 => numb (n1.mp (by omega))⟩⟩⟩
            rcases Nat.eq_zero_or_pos (nms w) with z | z
            · exact z
            · have := n1.mpr z; omega
          · rw [if_pos (Or.inr (by omega))] at hp
            exact rX12_isRead_39 fun _ => fail _ σ' hfr' e11 hp.symm _ fun σ2 hQ _ => ⟨Or.inl rfl, hQ⟩
  refine eX12_isRead (rX12_isRead_0 fun _ => loop (n + 1) 0 1 [] _ (Nat.zero_le _) (by omega) (fun c j a d e => ?_) ⟨?_, by decide, fun i hi => by simp at hi⟩ ?_ (by decide) rfl)
  · rw [up2_a _ _ (by omega), up2_a _ _ (by omega)]
  · rw [up2_s]; rfl
  · rw [up2_nk _ _ (by decide), up2_s]; rfl
