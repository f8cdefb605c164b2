/-! the class reads as told -/
def frT (σ σ' : Sg) : Prop := ∀ c k, ¬ (c = 14 ∧ k = 2) → c ≠ 15 → ¬ (c = 12 ∧ (k = 3 ∨ k = 4)) → σ' c k = σ c k
theorem frT.trans {σ σ1 σ2 : Sg} (h1 : frT σ σ1) (h2 : frT σ1 σ2) : frT σ σ2 := fun c k a b d => (h2 c k a b d).trans (h1 c k a b d)
theorem txC.frame {σ σ' : Sg} {b : Nat → Int} {n : Nat} (h : txC σ b n) (hf : frT σ σ') : txC σ' b n := ⟨by rw [hf 12 2 (by omega) (by omega) (by omega)]; exact h.1, h.2.1, fun i hi => by rw [hf 13 i (by omega) (by omega) (by omega)]; exact h.2.2 i hi⟩
theorem getD_app {L : List Nat} {x i : Nat} (h : i < L.length) : (L ++ [x]).getD i 0 = L.getD i 0 := by
  rw [List.getD_eq_getElem?_getD, List.getElem?_append_left h, ← List.getD_eq_getElem?_getD]
theorem getD_app1 {L : List Nat} {x : Nat} : (L ++ [x]).getD L.length 0 = x := by
  rw [List.getD_eq_getElem?_getD, List.getElem?_append_right (Nat.le_refl _)]
  simp
theorem s_readWord {X : Cx} {σ : Sg} {Q : Int → Sg → Prop} {b : Nat → Int} {n q e due : Nat} {L : List Nat} (h : txC σ b n) (hq : q < e) (he : e ≤ n) (hbl : ∀ i, q ≤ i → i < e → b i ≠ 32) (hL : hasS 14 L σ) (hd : σ 12 3 = (due : Int)) (hd24 : due ≤ 100)
    (k0 : (due = 0 ∨ wAt b q e = 15 ∨ L.length = 24) → ∀ σ', frT σ σ' → Q 0 σ') (k1 : 0 < due → wAt b q e < 15 → L.length < 24 → ∀ σ', frT σ σ' → hasS 14 (L ++ [8 * wAt b q e]) σ' → σ' 12 3 = ((due + prt (wAt b q e) - 1 : Nat) : Int) → σ' 12 4 = ((nms (wAt b q e) : Nat) : Int) → Q 1 σ') : KX7_readWord X q e σ Q := by
  have fr0 : frT σ σ := fun _ _ _ _ _ => rfl
  refine eX7_readWord (rX7_readWord_0 fun _ => ?_)
  rw [hd]
  refine ⟨fun hz => ?_, fun hz => s_spelt h hq he hbl fun _ => ?_⟩
  · exact rX7_readWord_20 fun _ => ⟨by decide, fun _ => k0 (Or.inl (by omega)) σ fr0, fun h => absurd rfl h⟩
  · by_cases hw : wAt b q e = 15
    · rw [if_pos hw]
      exact rX7_readWord_20 fun _ => ⟨by decide, fun _ => k0 (Or.inr (Or.inl hw)) σ fr0, fun h => absurd rfl h⟩
    · rw [if_neg hw]
      have hw15 : wAt b q e < 15 := by
        rcases wAt_is b q e with ⟨z, -⟩ | ⟨z, -⟩
        · exact absurd z hw
        · exact z
      generalize hwe : wAt b q e = w at *
      refine rX7_readWord_20 fun _ => ⟨by omega, fun h => by omega, fun _ => ?_⟩
      obtain ⟨hl, h24, hcod⟩ := hL
      by_cases hf : L.length = 24
      · exact s_addFull isSay_14 (by omega) fun _ => ⟨by decide, fun h => absurd rfl h, fun _ => k0 (Or.inr (Or.inr hf)) σ fr0⟩
      · refine s_add isSay_14 hl (by omega) (by omega) fun _ => ⟨by decide, fun _ => ?_, fun h => absurd h (by decide)⟩
        refine s_parts hw15 fun _ => ?_
        have hp := prt_le w
        have hnm : nms w ≤ 4 := by unfold nms; split <;> (try split) <;> omega
        have ed : (up2 (up2 σ 14 2 ((L.length + 1 : Nat) : Int)) (14 + 1) L.length (8 * (w : Int))) 12 3 = (due : Int) := by rw [up2_nc _ _ (by decide), up2_nc _ _ (by decide)]; exact hd
        rw [ed]
        refine ⟨by omega, s_numbers hw15 fun _ => ⟨by omega, ?_⟩⟩
        refine k1 (by omega) hw15 (by omega) _ (fun c j a b d => ?_) ⟨?_, by simp; omega, fun i hi => ?_⟩ ?_ ?_
        · rw [up2_a _ _ (by omega), up2_a _ _ (by omega), up2_a _ _ (by omega), up2_a _ _ (by omega)]
        · rw [up2_nc _ _ (by decide), up2_nc _ _ (by decide), up2_nc _ _ (by decide), up2_s]; simp
        · rw [up2_nc _ _ (by decide), up2_nc _ _ (by decide)]
          by_cases z : i = L.length
          · subst z
            rw [up2_s, getD_app1]; omega
          · have : i < L.length := by simp at hi; omega
            rw [up2_nk _ _ z, up2_nc _ _ (by decide), getD_app this]
            exact hcod i this
        · rw [up2_nk _ _ (by decide), up2_s]; omega
        · rw [up2_s]
theorem zor_add : ∀ x : Nat, x < 120 → ∀ v : Nat, v < 8 → x % 8 = 0 → zor (x : Int) (v : Int) = ((x + v : Nat) : Int) := by decide +kernel
theorem s_readNumber {X : Cx} {σ : Sg} {Q : Int → Sg → Prop} {b : Nat → Int} {n q e nd x : Nat} {L : List Nat} (h : txC σ b n) (hq : q < e) (he : e ≤ n) (hL : hasS 14 (L ++ [x]) σ) (hx : x < 120 ∧ x % 8 = 0) (hd : σ 12 4 = (nd : Int)) (hd4 : nd ≤ 4)
    (k0 : ¬ (e = q + 1 ∧ 48 ≤ b q ∧ b q - 48 < nd) → Q 0 σ) (k1 : (e = q + 1 ∧ 48 ≤ b q ∧ b q - 48 < nd) → ∀ σ', frT σ σ' → hasS 14 (L ++ [x + (b q - 48).toNat]) σ' → σ' 12 3 = σ 12 3 → σ' 12 4 = 0 → Q 1 σ') : KX7_readNumber X q e σ Q := by
  obtain ⟨h1, h2, h3⟩ := h
  have hb := h3 q (by omega)
  refine eX7_readNumber (rX7_readNumber_0 fun _ => ⟨by omega, fun z => k0 (by omega), fun z => s_isWithin (by omega) (by omega) fun _ => ?_⟩)
  rw [if_pos (by omega)]
  refine ⟨by omega, fun h => by omega, fun _ => ⟨by omega, ?_⟩⟩
  rw [show σ 13 ((q : Int).toNat) = b q from hb.1, hd]
  refine s_isWithin (by omega) (by omega) fun _ => ?_
  by_cases hw : 0 ≤ b q - 48 ∧ b q - 48 < nd
  · rw [if_pos hw]
    refine ⟨by decide, fun _ => ⟨by omega, ?_⟩, fun h => absurd h (by decide)⟩
    rw [show σ 13 ((q : Int).toNat) = b q from hb.1]
    obtain ⟨hl, h24, hcod⟩ := hL
    have hlen : (L ++ [x]).length = L.length + 1 := by simp
    rw [hlen] at hl h24
    refine eX4_addNumber (rX4_addNumber_0 isSay_14 fun _ => ?_)
    rw [hl]
    refine ⟨fun h => by omega, fun _ => ⟨fun h => by omega, fun _ => ⟨by omega, by omega, fun _ => ?_⟩⟩⟩
    rw [show (((L.length + 1 : Nat) : Int) - 1).toNat = L.length by omega]
    have ex : σ (14 + 1) L.length = (x : Int) := by
      have := hcod L.length (by omega)
      rw [getD_app1] at this
      exact this
    have ev : b q - 48 = (((b q - 48).toNat : Nat) : Int) := by omega
    have ez : zor (σ (14 + 1) L.length) (b q - 48) = ((x + (b q - 48).toNat : Nat) : Int) := by
      rw [ex, ev, Int.toNat_natCast]
      exact zor_add x hx.1 _ (by omega) hx.2
    rw [ez]
    refine k1 (by omega) _ (fun c j a b d => ?_) ⟨?_, by simp; omega, fun i hi => ?_⟩ ?_ ?_
    · rw [up2_a _ _ (by omega), up2_a _ _ (by omega)]
    · rw [up2_nc _ _ (by decide), up2_nc _ _ (by decide)]; simpa using hl
    · rw [up2_nc _ _ (by decide)]
      by_cases z : i = L.length
      · subst z
        rw [up2_s, getD_app1]
      · have : i < L.length := by simp at hi; omega
        rw [up2_nk _ _ z, getD_app this]
        have := hcod i (by omega)
        rw [getD_app (by assumption)] at this
        exact this
    · rw [up2_nk _ _ (by decide), up2_nc _ _ (by decide)]
    · rw [up2_s]
  · rw [if_neg hw]
    exact ⟨by decide, fun h => absurd rfl h, fun _ => k0 (by omega)⟩
theorem skp_sp {b : Nat → Int} {n p : Nat} (h : p < n) (hb : b p = 32) : skp b n p = skp b n (p + 1) := run_step h (by simpa using hb)
theorem skp_no {b : Nat → Int} {n p : Nat} (h : p < n) (hb : b p ≠ 32) : skp b n p = p := run_stop h (by simpa using hb)
theorem skp_n {b : Nat → Int} {n : Nat} : skp b n n = n := run_end (Nat.le_refl _)
theorem prs_sp {b : Nat → Int} {n p due nd : Nat} {cs : List Nat} (h : p < n) (hb : b p = 32) : ∀ f, prs b n f p due nd cs = prs b n f (p + 1) due nd cs
  | 0 => rfl
  | f + 1 => by
    unfold prs
    rw [skp_sp h hb]
theorem tok_nb {b : Nat → Int} {n q : Nat} (hq : b q ≠ 32) : ∀ i, q ≤ i → i < tend b n q → b i ≠ 32 := by
  intro i h1 h2
  by_cases e : i = q
  · rw [e]; exact hq
  · unfold tend at h2
    split at h2
    · have := run_all (show q + 1 ≤ i by omega) h2
      unfold isL at this; simp at this; omega
    · split at h2
      · have := run_all (show q + 1 ≤ i by omega) h2
        unfold isD at this; simp at this; omega
      · omega
theorem nms_le (w : Nat) : nms w ≤ 4 := by unfold nms; split <;> (try split) <;> omega
theorem s_read {X : Cx} {σ : Sg} {Q : Int → Sg → Prop} {b : Nat → Int} {n : Nat} (h : txC σ b n) (k0 : ∀ (x : Nat) σ', frT σ σ' → prsT b n = .inl x → Q x σ') (k1 : ∀ L σ', frT σ σ' → hasS 14 L σ' → prsT b n = .inr L → Q (-1) σ') : KX7_read X σ Q := by
  have h160 := h.2.1
  have loop : ∀ d at' : Nat, at' + d = n → ∀ (f en due nd : Nat) (cs : List Nat) (σ1 : Sg), en ≤ n → n - max at' en < f → frT σ σ1 → hasS 14 cs.reverse σ1 → σ1 12 3 = (due : Int) → σ1 12 4 = (nd : Int) → due ≤ cs.length + 1 → nd ≤ 4 → (0 < nd → ∃ x r, cs = x :: r ∧ x < 120 ∧ x % 8 = 0) → prs b n f (max at' en) due nd cs = prsT b n → GX7_read_22 X en at' σ1 Q := by
    intro d
    induction d with
    | zero =>
      intro at' ha f en due nd cs σ1 hen hf hfr hS hdu hnd hdl hn4 hlast hp
      have ht := h.frame hfr
      have e : at' = n := by omega
      subst e
      match f, hf with
      | f + 1, hf =>
        rw [show max at' en = at' by omega] at hp
        unfold prs at hp
        rw [skp_n, if_pos rfl] at hp
        refine rX7_read_22 fun _ => ⟨by omega, fun _ => rX7_read_98 fun _ => ?_, fun z => by have := ht.1; omega⟩
        rw [hdu, hnd, ht.1]
        by_cases hz : due = 0 ∧ nd = 0
        · rw [if_pos hz] at hp
          exact ⟨fun z => by omega, fun _ => ⟨fun _ => k1 _ σ1 hfr hS hp.symm, fun z => by omega⟩⟩
        · rw [if_neg hz] at hp
          exact ⟨fun _ => k0 _ σ1 hfr hp.symm, fun _ => ⟨fun z => by omega, fun _ => k0 _ σ1 hfr hp.symm⟩⟩
    | succ d ih =>
      intro at' ha f en due nd cs σ1 hen hf hfr hS hdu hnd hdl hn4 hlast hp
      have ht := h.frame hfr
      have hb := (ht.2.2 at' (by omega))
      refine rX7_read_22 fun _ => ⟨by omega, fun z => by have := ht.1; omega, fun _ => ⟨by omega, fun z => by omega, fun _ => ⟨by omega, by omega, fun hlt => ?_, fun hge => ⟨by omega, ?_⟩⟩⟩⟩
      · refine rX7_read_92 fun _ => ih (at' + 1) (by omega) f en due nd cs σ1 hen (by omega) hfr hS hdu hnd hdl hn4 hlast ?_
        rw [show max (at' + 1) en = max at' en by omega]; exact hp
      · rw [show σ1 13 ((at' : Int).toNat) = b at' from hb.1]
        rw [show max at' en = at' by omega] at hp hf
        have hsl := hS.2.1
        rw [List.length_reverse] at hsl
        refine ⟨fun hne => ?_, fun hsp => ?_⟩
        · refine s_endOfToken ht (by omega) fun _ => ?_
          have htg := tend_gt b n at'
          have htl := tend_le (b := b) (n := n) (q := at') (by omega)
          match f, hf with
          | f + 1, hf =>
            unfold prs at hp
            rw [skp_no (by omega) hne, if_neg (by omega)] at hp
            rw [hnd]
            refine ⟨fun hnz => ?_, fun hnz => ?_⟩
            · clear hlast
              rw [if_neg (by omega)] at hp
              refine s_readWord ht htg htl (tok_nb hne) hS hdu (by omega) (fun hc σ' hfr' _ => ⟨by decide, fun z => absurd rfl z, fun _ => ?_⟩) (fun c1 c2 c3 σ' hfr' hS' hd' hn' _ => ⟨by decide, fun _ => ?_, fun z => absurd z (by decide)⟩)
              · have hp' : prsT b n = .inl at' := by
                  rw [← hp]
                  by_cases z : due = 0
                  · rw [if_pos z]
                  · rw [if_neg z, if_pos]
                    rcases hc with c | c | c
                    · exact absurd c z
                    · exact Or.inl c
                    · exact Or.inr (by simpa using c)
                exact k0 at' σ' (hfr.trans hfr') hp'
              · have c3' : cs.length < 24 := by simpa using c3
                rw [if_neg (by omega), if_neg (by omega)] at hp
                have hpl := prt_le (wAt b at' (tend b n at'))
                refine rX7_read_92 fun _ => ih (at' + 1) (by omega) f (tend b n at') _ _ (8 * wAt b at' (tend b n at') :: cs) σ' htl (by omega) (hfr.trans hfr') (by rw [List.reverse_cons]; exact hS') hd' hn' (by simp; omega) (nms_le _) (fun _ => ⟨_, _, rfl, by omega, by omega⟩) ?_
                rw [show max (at' + 1) (tend b n at') = tend b n at' by omega]
                exact hp
            · rw [if_pos (by omega)] at hp
              obtain ⟨x, r, rfl, hx1, hx2⟩ := hlast (by omega)
              rw [List.reverse_cons] at hS
              refine s_readNumber ht htg htl hS ⟨hx1, hx2⟩ hnd hn4 (fun hc _ => ⟨by decide, fun _ => ?_, fun z => absurd rfl z⟩) (fun hc σ' hfr' hS' hd' hn' _ => ⟨by decide, fun z => absurd z (by decide), fun _ => ?_⟩)
              · rw [if_neg hc] at hp
                exact k0 at' σ1 hfr hp.symm
              · rw [if_pos hc] at hp
                refine rX7_read_92 fun _ => ih (at' + 1) (by omega) f (tend b n at') due 0 ((x + (b at' - 48).toNat) :: r) σ' htl (by omega) (hfr.trans hfr') (by rw [List.reverse_cons]; exact hS') (by rw [hd']; exact hdu) hn' (by simpa using hdl) (by omega) (fun z => by omega) ?_
                rw [show max (at' + 1) (tend b n at') = tend b n at' by omega]
                exact hp
        · refine rX7_read_92 fun _ => ih (at' + 1) (by omega) f en due nd cs σ1 hen (by omega) hfr hS hdu hnd hdl hn4 hlast ?_
          rw [show max (at' + 1) en = at' + 1 by omega, ← prs_sp (by omega) hsp]
          exact hp
  refine eX7_read (rX7_read_0 fun _ => loop n 0 (by omega) (n + 1) 0 1 0 [] _ (by omega) (by omega) (fun c j a b d => ?_) ⟨?_, by decide, fun i hi => by simp at hi⟩ ?_ ?_ (by decide) (by decide) (fun z => by omega) rfl)
  · rw [up2_a _ _ (by omega), up2_a _ _ (by omega), up2_a _ _ (by omega)]
  · rw [up2_nc _ _ (by decide), up2_nc _ _ (by decide), up2_s]; rfl
  · rw [up2_nk _ _ (by decide), up2_s]; rfl
  · rw [up2_s]; rfl
