/-! the reference reads as told -/
def Vs (x : Nat → Int) : Nat → Int
  | 0 => 0
  | m + 1 => 27 * Vs x m + x m
theorem Vs_pos {x : Nat → Int} : ∀ m, (∀ i, i < m → 1 ≤ x i ∧ x i ≤ 26) → 0 ≤ Vs x m ∧ (0 < m → 0 < Vs x m)
  | 0, _ => ⟨Int.le_refl _, fun h => by omega⟩
  | m + 1, h => by
    have ih := (Vs_pos m (fun i hi => h i (by omega))).1
    have := h m (by omega)
    show 0 ≤ 27 * Vs x m + x m ∧ (0 < m + 1 → 0 < 27 * Vs x m + x m)
    omega
theorem Vs_le {x : Nat → Int} : ∀ m, (∀ i, i < m → 1 ≤ x i ∧ x i ≤ 26) → Vs x m < 27 ^ m
  | 0, _ => by show (0 : Int) < 1; decide
  | m + 1, h => by
    have ih := Vs_le m (fun i hi => h i (by omega))
    have := h m (by omega)
    show 27 * Vs x m + x m < 27 ^ (m + 1)
    rw [Int.pow_succ]
    omega
theorem Vs_inj {x y : Nat → Int} : ∀ m m', (∀ i, i < m → 1 ≤ x i ∧ x i ≤ 26) → (∀ i, i < m' → 1 ≤ y i ∧ y i ≤ 26) → Vs x m = Vs y m' → m = m' ∧ ∀ i, i < m → x i = y i
  | 0, 0, _, _, _ => ⟨rfl, fun i hi => by omega⟩
  | 0, m' + 1, _, hy, e => by
    have := (Vs_pos (m' + 1) hy).2 (by omega)
    rw [← e] at this
    exact absurd this (Int.lt_irrefl 0)
  | m + 1, 0, hx, _, e => by
    have := (Vs_pos (m + 1) hx).2 (by omega)
    rw [e] at this
    exact absurd this (Int.lt_irrefl 0)
  | m + 1, m' + 1, hx, hy, e => by
    have a := hx m (by omega)
    have c := hy m' (by omega)
    have e2 : 27 * Vs x m + x m = 27 * Vs y m' + y m' := e
    obtain ⟨h1, h2⟩ := Vs_inj m m' (fun i hi => hx i (by omega)) (fun i hi => hy i (by omega)) (by omega)
    refine ⟨by omega, fun i hi => ?_⟩
    rcases Nat.lt_succ_iff_lt_or_eq.mp hi with q | rfl
    · exact h2 i q
    · subst h1; omega
def Wc (w : Nat) : Int := [1065, 223456, 51266052, 257105, 10631, 1111, 423, 2045, 31735670, 400360, 267347, 6476969, 127558330490, 275356804, 305800].getD w 0
theorem Wc_key : ∀ w, w < 15 → Vs (fun i => namC (8 * w + i) - 96) (lw w) = Wc w := by decide +kernel
def wTF (t : Int) : Nat → Nat → Nat
  | 0, _ => 15
  | d + 1, w => if t = Wc w then w else wTF t d (w + 1)
def wT (t : Int) : Nat := wTF t 15 0
theorem wT_Wc : ∀ w, w < 15 → wT (Wc w) = w := by decide +kernel
theorem wTF_no {t : Int} : ∀ d w, w + d = 15 → (∀ v, w ≤ v → v < 15 → t ≠ Wc v) → wTF t d w = 15
  | 0, _, _, _ => rfl
  | d + 1, w, h, hn => by
    unfold wTF
    rw [if_neg (hn w (Nat.le_refl _) (by omega))]
    exact wTF_no d (w + 1) (by omega) (fun v a c => hn v (by omega) c)
theorem wT_no {t : Int} (h : ∀ v, v < 15 → t ≠ Wc v) : wT t = 15 := wTF_no 15 0 rfl (fun v _ c => h v c)
theorem Wc_pos : ∀ w, w < 15 → 0 < Wc w := by decide +kernel
def tokV (b : Nat → Int) (q m : Nat) : Int := Vs (fun i => b (q + i) - 96) m
theorem lw8 {w : Nat} (h : w < 15) : lw w ≤ 8 := (nam_key w h 0 (by decide)).1
theorem let_rng {x : Int} (h : isL x = true) : 1 ≤ x - 96 ∧ x - 96 ≤ 26 := by unfold isL at h; simp at h; omega
theorem wT_tok {b : Nat → Int} {q e : Nat} (hl : ∀ i, q ≤ i → i < e → isL (b i) = true) (hqe : q < e) : wT (tokV b q (e - q)) = wAt b q e := by
  rcases wAt_is b q e with ⟨h1, h2⟩ | ⟨h1, h2⟩
  · rw [h1]
    refine wT_no fun v hv he => ?_
    have := h2 v hv
    obtain ⟨e1, e2⟩ := Vs_inj (x := fun i => b (q + i) - 96) (y := fun i => namC (8 * v + i) - 96) (e - q) (lw v) (fun i hi => let_rng (hl (q + i) (by omega) (by omega))) (fun i hi => let_rng ((nam_key v hv i (by have := lw8 hv; omega)).2.2 hi)) (he.trans (Wc_key v hv).symm)
    rw [show mt b q e v = true from mt_iff.mpr ⟨e1, fun i hi => by have := e2 i (by omega); omega⟩] at this
    exact absurd this (by decide)
  · obtain ⟨e1, e2⟩ := mt_iff.mp h2
    have : tokV b q (e - q) = Wc (wAt b q e) := by
      rw [← Wc_key _ h1, e1]
      have key : ∀ (x y : Nat → Int) (m : Nat), (∀ i, i < m → x i = y i) → Vs x m = Vs y m := by
        intro x y m
        induction m with
        | zero => intro _; rfl
        | succ m ih => intro h; show 27 * Vs x m + x m = 27 * Vs y m + y m; rw [ih (fun i hi => h i (by omega)), h m (by omega)]
      exact key _ _ _ fun i hi => by rw [e2 i hi]
    rw [this, wT_Wc _ h1]
theorem wAt_noL {b : Nat → Int} {q e : Nat} (hqe : q < e) (h : ¬ isL (b q) = true) : wAt b q e = 15 := by
  rcases wAt_is b q e with ⟨h1, -⟩ | ⟨h1, h2⟩
  · exact h1
  · exfalso
    obtain ⟨e1, e2⟩ := mt_iff.mp h2
    have a := e2 0 (by omega)
    apply h
    rw [show b q = b (q + 0) from rfl, a]
    exact (nam_key _ h1 0 (by decide)).2.2 (by omega)
theorem wAt_long {b : Nat → Int} {q e : Nat} (h : 8 < e - q) : wAt b q e = 15 := by
  rcases wAt_is b q e with ⟨h1, -⟩ | ⟨h1, h2⟩
  · exact h1
  · rw [mt_long h1 h] at h2; exact absurd h2 (by decide)
def txM (σ : Sg) (b : Nat → Int) (n : Nat) : Prop := σ 69 8 = (n : Int) ∧ n ≤ 160 ∧ ∀ i, i < n → σ 77 i = b i ∧ 0 ≤ b i ∧ b i < 256
def frN (σ σ' : Sg) : Prop := ∀ c k, ¬ (c = 69 ∧ 10 ≤ k ∧ k ≤ 14) → σ' c k = σ c k
theorem txM.frame {σ σ' : Sg} {b : Nat → Int} {n : Nat} (h : txM σ b n) (hf : ∀ c k, (c = 69 ∧ k = 8) ∨ c = 77 → σ' c k = σ c k) : txM σ' b n := ⟨by rw [hf 69 8 (by omega)]; exact h.1, h.2.1, fun i hi => by rw [hf 77 i (by omega)]; exact h.2.2 i hi⟩
/-- what the reference's token says of the token at q -/
def TK (b : Nat → Int) (n q : Nat) (t num : Int) : Prop :=
  (isL (b q) = true → (tend b n q - q ≤ 9 ∧ t = tokV b q (tend b n q - q)) ∨ (9 < tend b n q - q ∧ t = -4)) ∧
  (¬ isL (b q) = true → isD (b q) = true → (tend b n q = q + 1 ∧ t = -1 ∧ num = b q - 48) ∨ (tend b n q ≠ q + 1 ∧ t = -4)) ∧
  (¬ isL (b q) = true → ¬ isD (b q) = true → t = -4)
theorem m_nextToken {X : Cx} {σ : Sg} {Q : Int → Sg → Prop} {b : Nat → Int} {n p : Nat} (h : txM σ b n) (hp : σ 69 10 = (p : Int)) (hpn : p ≤ n)
    (k : ∀ σ', frN σ σ' → σ' 69 11 = (skp b n p : Nat) → (skp b n p = n → σ' 69 12 = -2 ∧ σ' 69 10 = (n : Int)) → (skp b n p < n → σ' 69 10 = (tend b n (skp b n p) : Nat) ∧ TK b n (skp b n p) (σ' 69 12) (σ' 69 14)) → Q 0 σ') : KX12_nextToken X σ Q := by
  have h160 := h.2.1
  have at38 : ∀ (σ1 : Sg) (q : Nat), frN σ σ1 → σ1 69 10 = (q : Int) → q ≤ n → skp b n p = q → GX12_nextToken_38 X σ1 Q := by
    intro σ1 q hf hq hqn hs
    rw [hs] at k
    have ht := h.frame (σ' := σ1) fun c j hc => hf c j (by omega)
    obtain ⟨ht1, -, ht3⟩ := id ht
    refine rX12_nextToken_38 fun _ => ?_
    rw [hq, ht1]
    refine ⟨fun hne => ⟨by omega, ?_⟩, fun heq => ?_⟩
    · have hqn' : q < n := by omega
      have hb := ht3 q hqn'
      rw [show σ1 77 ((q : Int).toNat) = b q from hb.1]
      generalize hσ2 : up2 (up2 (up2 σ1 69 11 (q : Int)) 69 13 0) 69 14 0 = σ2
      have f2 : frN σ σ2 := fun c j hc => by rw [← hσ2, up2_a _ _ (by omega), up2_a _ _ (by omega), up2_a _ _ (by omega)]; exact hf c j hc
      have e11 : σ2 69 11 = (q : Int) := by rw [← hσ2, up2_nk _ _ (by decide), up2_nk _ _ (by decide), up2_s]
      have e10 : σ2 69 10 = (q : Int) := by rw [← hσ2, up2_nk _ _ (by decide), up2_nk _ _ (by decide), up2_nk _ _ (by decide)]; exact hq
      have e13 : σ2 69 13 = 0 := by rw [← hσ2, up2_nk _ _ (by decide), up2_s]
      have ht2 := h.frame (σ' := σ2) fun c j hc => f2 c j (by omega)
      refine m_in (by omega) (by decide) (by decide) fun _ => ?_
      by_cases hL : isL (b q) = true
      · have hLr : 97 ≤ b q ∧ b q ≤ 122 := by unfold isL at hL; simpa using hL
        rw [if_pos hLr]
        refine ⟨by decide, fun h => absurd h (by decide), fun _ => ?_⟩
        have hte : tend b n q = run isL b n (q + 1) := by unfold tend; rw [if_pos hL]
        have loop : ∀ d i : Nat, i + d = n → ∀ σ3 : Sg, q ≤ i → (∀ j, q ≤ j → j < i → isL (b j) = true) → run isL b n i = tend b n q → frN σ σ3 → σ3 69 10 = (i : Int) → σ3 69 11 = (q : Int) → (i - q ≤ 9 → σ3 69 12 = tokV b q (i - q)) → GX12_nextToken_101 X σ3 Q := by
          intro d
          have fin : ∀ (i : Nat) (σ3 : Sg), i ≤ n → q ≤ i → tend b n q = i → frN σ σ3 → σ3 69 10 = (i : Int) → σ3 69 11 = (q : Int) → (i - q ≤ 9 → σ3 69 12 = tokV b q (i - q)) → GX12_nextToken_191 X σ3 Q := by
            intro i σ3 hin hqi he hf3 h10 h11 h12
            refine rX12_nextToken_191 fun _ => ?_
            rw [h10, h11]
            refine ⟨by omega, fun z => ?_, fun z => ?_⟩
            · refine k _ (fun c j hc => by rw [up2_a _ _ (by omega)]; exact hf3 c j hc) (by rw [up2_nk _ _ (by decide)]; exact h11) (fun z => by omega) (fun _ => ⟨by rw [up2_nk _ _ (by decide), he]; exact h10, ?_⟩)
              refine ⟨fun _ => Or.inl ⟨by omega, ?_⟩, fun z => absurd hL z, fun z => absurd hL z⟩
              rw [up2_s, he]; exact h12 (by omega)
            · refine k _ (fun c j hc => by rw [up2_a _ _ (by omega)]; exact hf3 c j hc) (by rw [up2_nk _ _ (by decide)]; exact h11) (fun z => by omega) (fun _ => ⟨by rw [up2_nk _ _ (by decide), he]; exact h10, ?_⟩)
              exact ⟨fun _ => Or.inr ⟨by omega, by rw [up2_s]⟩, fun z => absurd hL z, fun z => absurd hL z⟩
          induction d with
          | zero =>
            intro i hi σ3 hqi hal hr hf3 h10 h11 h12
            have ht3' := h.frame (σ' := σ3) fun c j hc => hf3 c j (by omega)
            rw [run_end (by omega)] at hr
            exact rX12_nextToken_101 fun _ => ⟨fun _ => fin i σ3 (by omega) hqi hr.symm hf3 h10 h11 h12, fun z => by have := ht3'.1; omega⟩
          | succ d ih =>
            intro i hi σ3 hqi hal hr hf3 h10 h11 h12
            have ht3' := h.frame (σ' := σ3) fun c j hc => hf3 c j (by omega)
            have hbi := ht3'.2.2 i (by omega)
            refine rX12_nextToken_101 fun _ => ⟨fun z => by have := ht3'.1; omega, fun _ => ?_⟩
            rw [h10]
            refine ⟨by omega, ?_⟩
            rw [show σ3 77 ((i : Int).toNat) = b i from hbi.1]
            refine m_in (by omega) (by decide) (by decide) fun _ => ?_
            by_cases hLi : isL (b i) = true
            · have hr2 : 97 ≤ b i ∧ b i ≤ 122 := by unfold isL at hLi; simpa using hLi
              rw [if_pos hr2]
              rw [run_step (by omega) hLi] at hr
              refine ⟨by decide, fun h => absurd h (by decide), fun _ => ?_⟩
              rw [h10, h11]
              have hrn : ∀ j, j < i - q → 1 ≤ b (q + j) - 96 ∧ b (q + j) - 96 ≤ 26 := fun j hj => let_rng (hal (q + j) (by omega) (by omega))
              refine ⟨by omega, fun z => ?_, fun z => ⟨by omega, ?_⟩⟩
              · refine rX12_nextToken_175 fun _ => ⟨by decide, by omega, ?_⟩
                refine ih (i + 1) (by omega) _ (by omega) (fun j a c => ?_) hr (fun c j hc => by rw [up2_a _ _ (by omega), up2_a _ _ (by omega)]; exact hf3 c j hc) (by rw [up2_s, h10]; omega) (by rw [up2_nk _ _ (by decide), up2_nk _ _ (by decide)]; exact h11) (fun z2 => by omega)
                rcases Nat.lt_succ_iff_lt_or_eq.mp c with y | rfl
                · exact hal j a y
                · exact hLi
              · rw [show σ3 77 ((i : Int).toNat) = b i from hbi.1, h12 (by omega)]
                have e1 : 27 * tokV b q (i - q) + b i - 96 = tokV b q (i + 1 - q) := by
                  rw [show i + 1 - q = (i - q) + 1 by omega]
                  show _ = 27 * Vs _ (i - q) + (b (q + (i - q)) - 96)
                  rw [show q + (i - q) = i by omega]
                  show 27 * Vs _ (i - q) + b i - 96 = _
                  omega
                rw [e1]
                have b1 := (Vs_pos (x := fun j => b (q + j) - 96) (i + 1 - q) (fun j hj => by
                  by_cases y : q + j = i
                  · rw [y]; exact let_rng hLi
                  · exact hrn j (by omega))).1
                have b2 := Vs_le (x := fun j => b (q + j) - 96) (i + 1 - q) (fun j hj => by
                  by_cases y : q + j = i
                  · rw [y]; exact let_rng hLi
                  · exact hrn j (by omega))
                have b3 : (27 : Int) ^ (i + 1 - q) ≤ 27 ^ 9 := (show ∀ m, m ≤ 9 → (27 : Int) ^ m ≤ 27 ^ 9 by decide) _ (by omega)
                have b4 : (27 : Int) ^ 9 < 9223372036854775808 := by decide
                refine rX12_nextToken_175 fun _ => ⟨⟨?_, ?_⟩, by omega, ?_⟩
                · show _ ≤ Vs _ _; omega
                · show Vs _ _ < _; omega
                refine ih (i + 1) (by omega) _ (by omega) (fun j a c => ?_) hr (fun c j hc => by rw [up2_a _ _ (by omega), up2_a _ _ (by omega)]; exact hf3 c j hc) (by rw [up2_s, h10]; omega) (by rw [up2_nk _ _ (by decide), up2_nk _ _ (by decide)]; exact h11) (fun z2 => by rw [up2_nk _ _ (by decide), up2_s])
                rcases Nat.lt_succ_iff_lt_or_eq.mp c with y | rfl
                · exact hal j a y
                · exact hLi
            · have hr2 : ¬ (97 ≤ b i ∧ b i ≤ 122) := by unfold isL at hLi; simpa using hLi
              rw [if_neg hr2]
              rw [run_stop (by omega) hLi] at hr
              exact ⟨by decide, fun _ => fin i σ3 (by omega) hqi hr.symm hf3 h10 h11 h12, fun h => absurd rfl h⟩
        refine loop (n - q) q (by omega) _ (Nat.le_refl _) (fun j a c => by omega) (by rw [run_step hqn' hL, hte]) (fun c j hc => by rw [up2_a _ _ (by omega)]; exact f2 c j hc) (by rw [up2_nk _ _ (by decide)]; exact e10) (by rw [up2_nk _ _ (by decide)]; exact e11) (fun _ => by rw [up2_s, Nat.sub_self]; rfl)
      · have hLr : ¬ (97 ≤ b q ∧ b q ≤ 122) := by unfold isL at hL; simpa using hL
        rw [if_neg hLr]
        refine ⟨by decide, fun _ => ?_, fun h => absurd rfl h⟩
        rw [e10]
        refine ⟨by omega, ?_⟩
        rw [show σ2 77 ((q : Int).toNat) = b q from (ht2.2.2 q hqn').1]
        refine m_in (by omega) (by decide) (by decide) fun _ => ?_
        by_cases hD : isD (b q) = true
        · have hDr : 48 ≤ b q ∧ b q ≤ 57 := by unfold isD at hD; simpa using hD
          rw [if_pos hDr]
          refine ⟨by decide, fun h => absurd h (by decide), fun _ => ?_⟩
          have hte : tend b n q = run isD b n (q + 1) := by unfold tend; rw [if_neg hL, if_pos hD]
          have loop : ∀ d i : Nat, i + d = n → ∀ σ3 : Sg, q ≤ i → run isD b n i = tend b n q → frN σ σ3 → σ3 69 10 = (i : Int) → σ3 69 11 = (q : Int) → σ3 69 13 = ((i - q : Nat) : Int) → (i = q + 1 → σ3 69 14 = b q - 48) → GX12_nextToken_241 X σ3 Q := by
            intro d
            have fin : ∀ (i : Nat) (σ3 : Sg), i ≤ n → q ≤ i → tend b n q = i → frN σ σ3 → σ3 69 10 = (i : Int) → σ3 69 11 = (q : Int) → σ3 69 13 = ((i - q : Nat) : Int) → (i = q + 1 → σ3 69 14 = b q - 48) → GX12_nextToken_310 X σ3 Q := by
              intro i σ3 hin hqi he hf3 h10 h11 h13 h14
              have hgt := tend_gt b n q
              refine rX12_nextToken_310 fun _ => ?_
              rw [h13]
              refine ⟨fun z => ?_, fun z => ?_⟩
              · refine k _ (fun c j hc => by rw [up2_a _ _ (by omega)]; exact hf3 c j hc) (by rw [up2_nk _ _ (by decide)]; exact h11) (fun z => by omega) (fun _ => ⟨by rw [up2_nk _ _ (by decide), he]; exact h10, fun z => absurd z hL, fun _ _ => Or.inl ⟨by omega, by rw [up2_s], ?_⟩, fun _ z => absurd hD z⟩)
                rw [up2_nk _ _ (by decide)]; exact h14 (by omega)
              · exact k _ (fun c j hc => by rw [up2_a _ _ (by omega)]; exact hf3 c j hc) (by rw [up2_nk _ _ (by decide)]; exact h11) (fun z => by omega) (fun _ => ⟨by rw [up2_nk _ _ (by decide), he]; exact h10, fun z => absurd z hL, fun _ _ => Or.inr ⟨by omega, by rw [up2_s]⟩, fun _ z => absurd hD z⟩)
            induction d with
            | zero =>
              intro i hi σ3 hqi hr hf3 h10 h11 h13 h14
              have ht3' := h.frame (σ' := σ3) fun c j hc => hf3 c j (by omega)
              rw [run_end (by omega)] at hr
              exact rX12_nextToken_241 fun _ => ⟨fun _ => fin i σ3 (by omega) hqi hr.symm hf3 h10 h11 h13 h14, fun z => by have := ht3'.1; omega⟩
            | succ d ih =>
              intro i hi σ3 hqi hr hf3 h10 h11 h13 h14
              have ht3' := h.frame (σ' := σ3) fun c j hc => hf3 c j (by omega)
              have hbi := ht3'.2.2 i (by omega)
              refine rX12_nextToken_241 fun _ => ⟨fun z => by have := ht3'.1; omega, fun _ => ?_⟩
              rw [h10]
              refine ⟨by omega, ?_⟩
              rw [show σ3 77 ((i : Int).toNat) = b i from hbi.1]
              refine m_in (by omega) (by decide) (by decide) fun _ => ?_
              by_cases hDi : isD (b i) = true
              · have hr2 : 48 ≤ b i ∧ b i ≤ 57 := by unfold isD at hDi; simpa using hDi
                rw [if_pos hr2]
                rw [run_step (by omega) hDi] at hr
                refine ⟨by decide, fun h => absurd h (by decide), fun _ => ?_⟩
                rw [h10, h13]
                refine ⟨by omega, ?_⟩
                rw [show σ3 77 ((i : Int).toNat) = b i from hbi.1]
                refine ⟨by omega, by omega, by omega, ?_⟩
                refine ih (i + 1) (by omega) _ (by omega) hr (fun c j hc => by rw [up2_a _ _ (by omega), up2_a _ _ (by omega), up2_a _ _ (by omega)]; exact hf3 c j hc) (by rw [up2_s]; omega) (by rw [up2_nk _ _ (by decide), up2_nk _ _ (by decide), up2_nk _ _ (by decide)]; exact h11) (by rw [up2_nk _ _ (by decide), up2_s]; omega) (fun z => ?_)
                rw [up2_nk _ _ (by decide), up2_nk _ _ (by decide), up2_s]
                have : i = q := by omega
                rw [this]
              · have hr2 : ¬ (48 ≤ b i ∧ b i ≤ 57) := by unfold isD at hDi; simpa using hDi
                rw [if_neg hr2]
                rw [run_stop (by omega) hDi] at hr
                exact ⟨by decide, fun _ => fin i σ3 (by omega) hqi hr.symm hf3 h10 h11 h13 h14, fun h => absurd rfl h⟩
          exact loop (n - q) q (by omega) σ2 (Nat.le_refl _) (by rw [run_step hqn' hD, hte]) f2 e10 e11 (by rw [e13, Nat.sub_self]; rfl) (fun z => by omega)
        · have hDr : ¬ (48 ≤ b q ∧ b q ≤ 57) := by unfold isD at hD; simpa using hD
          rw [if_neg hDr]
          have hte : tend b n q = q + 1 := by unfold tend; rw [if_neg hL, if_neg hD]
          refine ⟨by decide, fun _ => ⟨by rw [e10]; omega, ?_⟩, fun h => absurd rfl h⟩
          exact k _ (fun c j hc => by rw [up2_a _ _ (by omega), up2_a _ _ (by omega)]; exact f2 c j hc) (by rw [up2_nk _ _ (by decide), up2_nk _ _ (by decide)]; exact e11) (fun z => by omega) (fun _ => ⟨by rw [up2_s, e10, hte]; omega, fun z => absurd z hL, fun _ z => absurd z hD, fun _ _ => by rw [up2_nk _ _ (by decide), up2_s]⟩)
    · have : q = n := by omega
      subst this
      exact k _ (fun c j hc => by rw [up2_a _ _ (by omega), up2_a _ _ (by omega), up2_a _ _ (by omega), up2_a _ _ (by omega)]; exact hf c j hc) (by rw [up2_nk _ _ (by decide), up2_nk _ _ (by decide), up2_nk _ _ (by decide), up2_s]) (fun _ => ⟨by rw [up2_s], by rw [up2_nk _ _ (by decide), up2_nk _ _ (by decide), up2_nk _ _ (by decide), up2_nk _ _ (by decide)]; exact hq⟩) (fun z => by omega)
  have loop : ∀ d i : Nat, i + d = n → ∀ σ1 : Sg, frN σ σ1 → σ1 69 10 = (i : Int) → skp b n p = skp b n i → GX12_nextToken_0 X σ1 Q := by
    intro d
    induction d with
    | zero =>
      intro i hi σ1 hf h10 hs
      have ht := h.frame (σ' := σ1) fun c j hc => hf c j (by omega)
      have : i = n := by omega
      subst this
      exact rX12_nextToken_0 fun _ => ⟨fun _ => at38 σ1 i hf h10 (Nat.le_refl _) (hs.trans skp_n), fun z => by have := ht.1; omega⟩
    | succ d ih =>
      intro i hi σ1 hf h10 hs
      have ht := h.frame (σ' := σ1) fun c j hc => hf c j (by omega)
      have hb := ht.2.2 i (by omega)
      refine rX12_nextToken_0 fun _ => ⟨fun z => by have := ht.1; omega, fun _ => ?_⟩
      rw [h10]
      refine ⟨by omega, ?_⟩
      rw [show σ1 77 ((i : Int).toNat) = b i from hb.1]
      refine ⟨fun z => at38 σ1 i hf h10 (by omega) (by rw [hs]; exact skp_no (by omega) z), fun z => ⟨by omega, ?_⟩⟩
      refine ih (i + 1) (by omega) _ (fun c j hc => by rw [up2_a _ _ (by omega)]; exact hf c j hc) (by rw [up2_s]; omega) ?_
      rw [hs]; exact skp_sp (by omega) z
  exact eX12_nextToken (loop (n - p) p (by omega) σ (fun _ _ _ => rfl) hp rfl)
