/-! READING A TEXT: what it is, and that both read so -/
def isL (x : Int) : Bool := decide (97 ≤ x ∧ x ≤ 122)
def isD (x : Int) : Bool := decide (48 ≤ x ∧ x ≤ 57)
/-- from q on, the first place (of d more at most) where p fails -/
def runF (p : Int → Bool) (b : Nat → Int) : Nat → Nat → Nat
  | 0, q => q
  | d + 1, q => if p (b q) then runF p b d (q + 1) else q
def run (p : Int → Bool) (b : Nat → Int) (n q : Nat) : Nat := runF p b (n - q) q
theorem run_end {p : Int → Bool} {b : Nat → Int} {n q : Nat} (h : n ≤ q) : run p b n q = q := by
  unfold run; rw [Nat.sub_eq_zero_of_le h]; rfl
theorem run_step {p : Int → Bool} {b : Nat → Int} {n q : Nat} (h : q < n) (hp : p (b q) = true) : run p b n q = run p b n (q + 1) := by
  unfold run
  rw [show n - q = (n - (q + 1)) + 1 by omega]
  show (if p (b q) then _ else _) = _
  rw [if_pos hp]
theorem run_stop {p : Int → Bool} {b : Nat → Int} {n q : Nat} (h : q < n) (hp : ¬ p (b q) = true) : run p b n q = q := by
  unfold run
  rw [show n - q = (n - (q + 1)) + 1 by omega]
  show (if p (b q) then _ else _) = _
  rw [if_neg hp]
theorem runF_le (p : Int → Bool) (b : Nat → Int) : ∀ d q, q ≤ runF p b d q ∧ runF p b d q ≤ q + d
  | 0, q => ⟨Nat.le_refl _, Nat.le_refl _⟩
  | d + 1, q => by
    have := runF_le p b d (q + 1)
    unfold runF
    split <;> omega
theorem run_ge (p : Int → Bool) (b : Nat → Int) (n q : Nat) : q ≤ run p b n q := (runF_le p b _ q).1
theorem run_le {p : Int → Bool} {b : Nat → Int} {n q : Nat} (h : q ≤ n) : run p b n q ≤ n := by
  have := (runF_le p b (n - q) q).2
  unfold run; omega
theorem runF_all (p : Int → Bool) (b : Nat → Int) : ∀ d q i, q ≤ i → i < runF p b d q → p (b i) = true
  | 0, q, i, h1, h2 => by unfold runF at h2; omega
  | d + 1, q, i, h1, h2 => by
    unfold runF at h2
    split at h2
    · rename_i hp
      by_cases e : i = q
      · rw [e]; exact hp
      · exact runF_all p b d (q + 1) i (by omega) h2
    · omega
theorem run_all {p : Int → Bool} {b : Nat → Int} {n q i : Nat} (h1 : q ≤ i) (h2 : i < run p b n q) : p (b i) = true := runF_all p b _ q i h1 h2
theorem runF_not (p : Int → Bool) (b : Nat → Int) : ∀ d q, runF p b d q < q + d → ¬ p (b (runF p b d q)) = true
  | 0, q, h => by unfold runF at h; omega
  | d + 1, q, h => by
    unfold runF at h ⊢
    split at h
    · rename_i hp
      rw [if_pos hp]
      exact runF_not p b d (q + 1) (by omega)
    · rename_i hp
      rw [if_neg hp]; exact hp
theorem run_not {p : Int → Bool} {b : Nat → Int} {n q : Nat} (h : run p b n q < n) (hq : q ≤ n) : ¬ p (b (run p b n q)) = true := by
  unfold run at h ⊢
  exact runF_not p b _ q (by omega)
def skp (b : Nat → Int) (n q : Nat) : Nat := run (fun x => decide (x = 32)) b n q
/-- the end of the token that begins at q -/
def tend (b : Nat → Int) (n q : Nat) : Nat := if isL (b q) then run isL b n (q + 1) else if isD (b q) then run isD b n (q + 1) else q + 1
theorem tend_gt (b : Nat → Int) (n q : Nat) : q < tend b n q := by
  unfold tend
  split
  · have := run_ge isL b n (q + 1); omega
  · split
    · have := run_ge isD b n (q + 1); omega
    · omega
theorem tend_le {b : Nat → Int} {n q : Nat} (h : q < n) : tend b n q ≤ n := by
  unfold tend
  split
  · exact run_le (by omega)
  · split
    · exact run_le (by omega)
    · omega
/-- how many letters the w-th word has -/
def lw (w : Nat) : Nat := [3, 4, 6, 4, 3, 3, 2, 3, 6, 4, 4, 5, 8, 6, 4].getD w 0
theorem nam_key : ∀ w, w < 15 → ∀ i, i < 8 → (lw w ≤ 8 ∧ (lw w ≤ i → namC (8 * w + i) = 32) ∧ (i < lw w → isL (namC (8 * w + i)) = true)) := by decide +kernel
theorem namC_in : ∀ i, i < 120 → inI (namC i) := by decide +kernel
def mt (b : Nat → Int) (q e w : Nat) : Bool := decide (e - q = lw w) && (List.range (lw w)).all (fun i => decide (b (q + i) = namC (8 * w + i)))
theorem mt_iff {b : Nat → Int} {q e w : Nat} : mt b q e w = true ↔ e - q = lw w ∧ ∀ i, i < lw w → b (q + i) = namC (8 * w + i) := by
  unfold mt
  rw [Bool.and_eq_true, decide_eq_true_iff, List.all_eq_true]
  constructor
  · rintro ⟨h1, h2⟩
    exact ⟨h1, fun i hi => by simpa using h2 i (List.mem_range.mpr hi)⟩
  · rintro ⟨h1, h2⟩
    exact ⟨h1, fun i hi => by simpa using h2 i (List.mem_range.mp hi)⟩
/-- the word that stands from q to e, or 15 -/
def wAtF (b : Nat → Int) (q e : Nat) : Nat → Nat → Nat
  | 0, _ => 15
  | d + 1, w => if mt b q e w then w else wAtF b q e d (w + 1)
def wAt (b : Nat → Int) (q e : Nat) : Nat := wAtF b q e 15 0
theorem wAtF_is (b : Nat → Int) (q e : Nat) : ∀ d w, w + d = 15 → (wAtF b q e d w = 15 ∧ ∀ v, w ≤ v → v < 15 → mt b q e v = false) ∨ (wAtF b q e d w < 15 ∧ mt b q e (wAtF b q e d w) = true)
  | 0, w, h => Or.inl ⟨rfl, fun v h1 h2 => by omega⟩
  | d + 1, w, h => by
    unfold wAtF
    split
    · rename_i hm; exact Or.inr ⟨by omega, hm⟩
    · rename_i hm
      rcases wAtF_is b q e d (w + 1) (by omega) with ⟨h1, h2⟩ | h1
      · refine Or.inl ⟨h1, fun v a c => ?_⟩
        by_cases z : v = w
        · subst z; simpa using hm
        · exact h2 v (by omega) c
      · exact Or.inr h1
theorem wAt_is (b : Nat → Int) (q e : Nat) : (wAt b q e = 15 ∧ ∀ v, v < 15 → mt b q e v = false) ∨ (wAt b q e < 15 ∧ mt b q e (wAt b q e) = true) := by
  rcases wAtF_is b q e 15 0 rfl with ⟨h1, h2⟩ | h
  · exact Or.inl ⟨h1, fun v hv => h2 v (Nat.zero_le _) hv⟩
  · exact Or.inr h
/-- the reading: from place p on, 'due' sayings and a number below nd still wanted; the codes read, the last one first: a fault's place, or the codes -/
def prs (b : Nat → Int) (n : Nat) : Nat → Nat → Nat → Nat → List Nat → Nat ⊕ List Nat
  | 0, _, _, _, _ => .inl 0
  | f + 1, p, due, nd, cs =>
    if skp b n p = n then (if due = 0 ∧ nd = 0 then .inr cs.reverse else .inl n)
    else if 0 < nd then (if tend b n (skp b n p) = skp b n p + 1 ∧ 48 ≤ b (skp b n p) ∧ b (skp b n p) - 48 < nd then prs b n f (tend b n (skp b n p)) due 0 (match cs with | x :: r => (x + (b (skp b n p) - 48).toNat) :: r | [] => []) else .inl (skp b n p))
    else if due = 0 then .inl (skp b n p)
    else if wAt b (skp b n p) (tend b n (skp b n p)) = 15 ∨ cs.length = 24 then .inl (skp b n p)
    else prs b n f (tend b n (skp b n p)) (due + prt (wAt b (skp b n p) (tend b n (skp b n p))) - 1) (nms (wAt b (skp b n p) (tend b n (skp b n p)))) (8 * wAt b (skp b n p) (tend b n (skp b n p)) :: cs)
def prsT (b : Nat → Int) (n : Nat) : Nat ⊕ List Nat := prs b n (n + 1) 0 1 0 []
/-! the class -/
def txC (σ : Sg) (b : Nat → Int) (n : Nat) : Prop := σ 12 2 = (n : Int) ∧ n ≤ 160 ∧ ∀ i, i < n → σ 13 i = b i ∧ 0 ≤ b i ∧ b i < 256
theorem s_sortAt {X : Cx} {σ : Sg} {Q : Int → Sg → Prop} {b : Nat → Int} {n q : Nat} (h : txC σ b n) (hq : q < n) (k : Q (if isL (b q) then 0 else if isD (b q) then 1 else 2) σ) : KX7_sortAt X q σ Q := by
  obtain ⟨h1, h2, h3⟩ := h
  have hb := h3 q hq
  refine eX7_sortAt (rX7_sortAt_0 fun _ => s_isWithin (by omega) (by omega) fun _ => ?_)
  rw [if_pos (by omega)]
  refine ⟨by omega, fun h => by omega, fun _ => ⟨by omega, ?_⟩⟩
  rw [show σ 13 ((q : Int).toNat) = b q from hb.1]
  unfold isL isD at k
  have no : ¬ (97 ≤ b q ∧ b q ≤ 122) → GX7_sortAt_36 X q (b q) σ Q := by
    intro hn
    rw [if_neg (by simpa using hn)] at k
    refine rX7_sortAt_36 fun _ => ⟨by omega, fun h => ?_, fun h => ⟨by omega, fun h' => ?_, fun h' => ?_⟩⟩
    · rw [if_neg (by simp; omega)] at k; exact k
    · rw [if_neg (by simp; omega)] at k; exact k
    · rw [if_pos (by simp; omega)] at k; exact k
  refine rX7_sortAt_21 fun _ => ⟨by omega, fun h => no (by omega), fun h => ⟨by omega, fun h' => no (by omega), fun h' => ?_⟩⟩
  rw [if_pos (by simp; omega)] at k; exact k
theorem isL_notD {x : Int} (h : isL x = true) : isD x = false := by unfold isL at h; unfold isD; simp at h ⊢; omega
theorem s_endOfToken {X : Cx} {σ : Sg} {Q : Int → Sg → Prop} {b : Nat → Int} {n q : Nat} (h : txC σ b n) (hq : q < n) (k : Q (tend b n q : Nat) σ) : KX7_endOfToken X q σ Q := by
  have hn := h.1
  have h160 := h.2.1
  refine eX7_endOfToken (rX7_endOfToken_0 fun _ => s_sortAt h hq fun _ => ?_)
  unfold tend at k
  have loop : ∀ (p : Int → Bool) (c : Int), (c = 0 ∨ c = 1) → (∀ i, i < n → (p (b i) = true ↔ (if isL (b i) then (0 : Int) else if isD (b i) then 1 else 2) = c)) → ∀ d i : Nat, i + d = n → Q (run p b n i : Nat) σ → GX7_endOfToken_15 X q c i σ Q := by
    intro p c hc hp d
    induction d with
    | zero =>
      intro i hi hk
      rw [run_end (by omega)] at hk
      exact rX7_endOfToken_15 fun _ => ⟨by omega, fun _ => hk, fun h => by omega⟩
    | succ d ih =>
      intro i hi hk
      refine rX7_endOfToken_15 fun _ => ⟨by omega, fun h => by omega, fun _ => ⟨by omega, fun h => by omega, fun _ => s_sortAt h (by omega) fun _ => ⟨?_, by omega, fun hne => ?_, fun he => ?_⟩⟩⟩
      · split <;> (try split) <;> decide
      · rw [run_stop (by omega) (fun z => hne ((hp i (by omega)).mp z))] at hk
        exact hk
      · rw [run_step (by omega) ((hp i (by omega)).mpr he)] at hk
        exact ih (i + 1) (by omega) hk
  by_cases hL : isL (b q) = true
  · rw [if_pos hL] at k ⊢
    refine ⟨by decide, fun h => absurd h (by decide), fun _ => loop isL 0 (Or.inl rfl) (fun i hi => ?_) (n - (q + 1)) (q + 1) (by omega) k⟩
    by_cases z : isL (b i) = true
    · simp [z]
    · simp [z]; split <;> decide
  · rw [if_neg hL] at k ⊢
    by_cases hD : isD (b q) = true
    · rw [if_pos hD] at k ⊢
      refine ⟨by decide, fun h => absurd h (by decide), fun _ => loop isD 1 (Or.inr rfl) (fun i hi => ?_) (n - (q + 1)) (q + 1) (by omega) k⟩
      by_cases z : isL (b i) = true
      · simp [z, isL_notD z]
      · by_cases z2 : isD (b i) = true
        · simp [z, z2]
        · simp [z, z2]
    · rw [if_neg hD] at k ⊢
      exact ⟨by decide, fun _ => k, fun h => absurd rfl h⟩
theorem s_isSpelt {X : Cx} {σ : Sg} {Q : Int → Sg → Prop} {b : Nat → Int} {n q e w : Nat} (h : txC σ b n) (hq : q < e) (he : e ≤ n) (h8 : e - q ≤ 8) (hw : w < 15) (hbl : ∀ i, q ≤ i → i < e → b i ≠ 32) (k : Q (if mt b q e w then 1 else 0) σ) : KX10_isSpelt X w q e σ Q := by
  obtain ⟨h1, h2, h3⟩ := h
  refine eX10_isSpelt (rX10_isSpelt_0 fun _ => ?_)
  have loop : ∀ d i : Nat, i + d = 8 → (∀ j, j < i → namC (8 * w + j) = if q + j < e then b (q + j) else 32) → GX10_isSpelt_3 X w q e i σ Q := by
    intro d
    induction d with
    | zero =>
      intro i hi hall
      have : i = 8 := by omega
      subst this
      have hm : mt b q e w = true := by
        rw [mt_iff]
        have e1 : e - q = lw w := by
          have hl8 := (nam_key w hw 0 (by decide)).1
          rcases Nat.lt_trichotomy (e - q) (lw w) with z | z | z
          · exfalso
            have a := hall (e - q) (by omega)
            rw [if_neg (by omega)] at a
            have := (nam_key w hw (e - q) (by omega)).2.2 z
            rw [a] at this
            exact absurd this (by decide)
          · exact z
          · exfalso
            have a := hall (lw w) (by omega)
            rw [if_pos (by omega), (nam_key w hw (lw w) (by omega)).2.1 (Nat.le_refl _)] at a
            exact hbl (q + lw w) (by omega) (by omega) a.symm
        exact ⟨e1, fun j hj => by have a := hall j (by omega); rw [if_pos (by omega)] at a; exact a.symm⟩
      rw [if_pos hm] at k
      exact rX10_isSpelt_3 fun _ => ⟨by decide, fun _ => k, fun h => by omega⟩
    | succ d ih =>
      intro i hi hall
      have nx : ∀ s0 : Int, (s0 = if q + i < e then b (q + i) else 32) → inI s0 → GX10_isSpelt_29 X w q e i s0 σ Q := by
        intro s0 hs hin
        have ix : ((8 * (w : Int)) + (i : Int)).toNat = 8 * w + i := by omega
        refine rX10_isSpelt_29 fun _ => ⟨by omega, ?_, hin, fun z => ?_, fun z => ?_⟩
        · rw [ix]; exact namC_in _ (by omega)
        · rw [ix] at z
          exact ih (i + 1) (by omega) (fun j hj => by
            rcases Nat.lt_succ_iff_lt_or_eq.mp hj with y | rfl
            · exact hall j y
            · rw [z, hs])
        · rw [ix] at z
          have hm : ¬ mt b q e w = true := by
            rw [mt_iff]
            rintro ⟨a, c⟩
            apply z
            rw [hs]
            by_cases y : q + i < e
            · rw [if_pos y]; exact (c i (by omega)).symm
            · rw [if_neg y]; exact (nam_key w hw i (by omega)).2.1 (by omega)
          rw [if_neg hm] at k
          exact k
      refine rX10_isSpelt_3 fun _ => ⟨by omega, fun h => by omega, fun _ => ⟨by omega, by omega, fun z => nx 32 (by rw [if_neg (by omega)]) (by decide), fun z => ⟨by omega, ?_⟩⟩⟩
      have hb := h3 (q + i) (by omega)
      rw [show ((q : Int) + (i : Int)).toNat = q + i by omega, hb.1]
      exact nx _ (by rw [if_pos (by omega)]) (by omega)
  exact loop 8 0 rfl (fun j hj => by omega)
theorem mt_long {b : Nat → Int} {q e w : Nat} (hw : w < 15) (h : 8 < e - q) : mt b q e w = false := by
  have := (nam_key w hw 0 (by decide)).1
  cases hm : mt b q e w with
  | false => rfl
  | true => have := (mt_iff.mp hm).1; omega
theorem s_spelt {X : Cx} {σ : Sg} {Q : Int → Sg → Prop} {b : Nat → Int} {n q e : Nat} (h : txC σ b n) (hq : q < e) (he : e ≤ n) (hbl : ∀ i, q ≤ i → i < e → b i ≠ 32) (k : Q (if wAt b q e = 15 then -1 else (wAt b q e : Nat)) σ) : KX10_spelt X q e σ Q := by
  have h160 := h.2.1
  refine eX10_spelt (rX10_spelt_0 fun _ => ⟨by omega, fun h => by omega, fun _ => ⟨by omega, fun h => by omega, fun _ => ⟨by omega, fun h8 => ?_, fun h8 => ?_⟩⟩⟩)
  · have loop : ∀ d w : Nat, w + d = 15 → Q (if wAtF b q e d w = 15 then -1 else (wAtF b q e d w : Nat)) σ → GX10_spelt_22 X q e w σ Q := by
      intro d
      induction d with
      | zero =>
        intro w hw hk
        exact rX10_spelt_22 fun _ => ⟨by omega, fun _ => hk, fun h => by omega⟩
      | succ d ih =>
        intro w hw hk
        refine rX10_spelt_22 fun _ => ⟨by omega, fun h => by omega, fun _ => s_isSpelt h hq he (by omega) (by omega) hbl fun _ => ?_⟩
        unfold wAtF at hk
        by_cases hm : mt b q e w = true
        · rw [if_pos hm] at hk ⊢
          rw [if_neg (by omega)] at hk
          exact ⟨by decide, fun h => absurd h (by decide), fun _ => hk⟩
        · rw [if_neg hm] at hk ⊢
          exact ⟨by decide, fun _ => ih (w + 1) (by omega) hk, fun h => absurd rfl h⟩
    exact loop 15 0 rfl k
  · rcases wAt_is b q e with ⟨e1, -⟩ | ⟨e1, e2⟩
    · rw [if_pos e1] at k; exact k
    · exfalso
      rw [mt_long e1 (by omega)] at e2
      exact absurd e2 (by decide)
