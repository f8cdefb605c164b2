def T0 (A : AS) : Nat → Nat := fun k => meanL A.1 (A.2.2.2.1.getD k [])
def C0 (A : AS) : Nat → Int := fun k => costL A.2.1 (A.2.2.2.1.getD k [])
abbrev thk (A : AS) (d : Nat) : Nat → Nat := thinkN (T0 A) (C0 A) A.2.2.2.1.length A.1.1 d
def frH (σ σ' : Sg) : Prop := ∀ c k, ¬ (61 ≤ c ∧ c ≤ 64) → ¬ (18 ≤ c ∧ c ≤ 41 ∧ (c - 18) % 3 = 2) → σ' c k = σ c k
theorem frH_scr {σ σ' : Sg} (h : frH σ σ') : ∀ c k, ¬ scr c k → σ' c k = σ c k := fun c k z => h c k (by unfold scr at z; omega) (by unfold scr at z; omega)
theorem frH.trans {σ σ1 σ2 : Sg} (h1 : frH σ σ1) (h2 : frH σ1 σ2) : frH σ σ2 := fun c k a b => (h2 c k a b).trans (h1 c k a b)
theorem costL_rng {P : Nat → Int} (hP : okP P) : ∀ L : List Nat, okC L → 0 ≤ costL P L ∧ costL P L ≤ 9 * (L.length : Int)
  | [], _ => ⟨Int.le_refl _, Int.le_refl _⟩
  | x :: xs, h => by
    have a := costL_rng hP xs fun y hy => h y (List.mem_cons_of_mem _ hy)
    have b := hP (x / 8) (by have := h x List.mem_cons_self; omega)
    show 0 ≤ P (x / 8) + costL P xs ∧ P (x / 8) + costL P xs ≤ 9 * ((xs.length + 1 : Nat) : Int)
    omega
theorem C0_rng {A : AS} (hA : okA A) {k : Nat} (hk : k < A.2.2.2.1.length) : 0 ≤ C0 A k ∧ C0 A k ≤ 216 := by
  have hc := hA.2.2.1.2 _ (getD_memL hk)
  have := costL_rng hA.2.1 _ hc.1
  unfold C0; omega
theorem s_think {CK : CKt} {X : Cx} {A : AS} {m : Nat} {σ : Sg} {Q : Int → Sg → Prop} {d : Nat} (hCK : okCK CK) (h : InvC CK A m σ) (hA : okA A) (hd : d ≤ 20) (K : ∀ σ', frH σ σ' → hstC A.2.2.2.1.length (thk A d) (C0 A) σ' → Q 0 σ') : KX11_think X d σ Q := by
  have hl := hA.2.2.1.1
  have h8 := hA.1.1
  refine eX11_think (rX11_think_0 fun _ => eX1_start (rX1_start_0 fun _ _ => ?_))
  have deep : ∀ e j : Nat, j + e = d → ∀ σ1 : Sg, frH σ σ1 → hstC A.2.2.2.1.length (thk A j) (C0 A) σ1 → GX11_think_64 X d j σ1 Q := by
    intro e
    induction e with
    | zero =>
      intro j hj σ1 f1 hs
      have : j = d := by omega
      subst this
      exact rX11_think_64 fun _ => ⟨by omega, by omega, fun _ => K σ1 f1 hs, fun z => by omega⟩
    | succ e ih =>
      intro j hj σ1 f1 hs
      have e1 : σ1 1 1 = (A.1.1 : Int) := by rw [f1 1 1 (by omega) (by omega)]; exact h.1.1
      refine rX11_think_64 fun _ => ⟨by omega, by omega, fun z => by omega, fun _ => ?_⟩
      rw [e1]
      exact s_deepen hs h8 fun σ2 f2 hs2 _ => ih (j + 1) (by omega) σ2 (fun c k a b => by rw [f2 c k (by omega) (by omega)]; exact f1 c k a b) hs2
  have loop : ∀ e i : Nat, i + e = A.2.2.2.1.length → ∀ σ1 : Sg, frH σ σ1 → hstC i (T0 A) (C0 A) σ1 → GX11_think_9 X d i σ1 Q := by
    intro e
    induction e with
    | zero =>
      intro i hi σ1 f1 hs
      have hi : i = A.2.2.2.1.length := by omega
      have h' := h.frame hCK hl (frH_scr f1)
      have e10 := h'.2.2.2.2.2.1.1
      refine rX11_think_9 fun _ => ⟨by omega, fun _ => rX11_think_62 fun _ => deep d 0 (by omega) σ1 f1 (by rw [hi] at hs; exact hs), fun z => by omega⟩
    | succ e ih =>
      intro i hi σ1 f1 hs
      have h' := h.frame hCK hl (frH_scr f1)
      have e10 := h'.2.2.2.2.2.1.1
      have hi' : i < A.2.2.2.1.length := by omega
      have hc := hA.2.2.1.2 _ (getD_memL hi')
      have hk := h'.2.2.2.2.2.1.2 i hi'
      refine rX11_think_9 fun _ => ⟨by omega, fun z => by omega, fun _ => ⟨by omega, fun z => by omega, fun _ => ⟨by omega, ?_⟩⟩⟩
      refine s_meaning h'.1 hA.1.2.1 hA.1.2.2.2.1 (isSay_k i (by omega)) hk hc.2.1 hc.1 fun σ2 f2 _ => ⟨by omega, ?_⟩
      have f12 : frH σ σ2 := fun c k a b => by rw [f2 c k (by omega)]; exact f1 c k a b
      have h2 := h.frame hCK hl (frH_scr f12)
      refine s_cost h2.2.2.2.1 (isSay_k i (by omega)) (h2.2.2.2.2.2.1.2 i hi') hc.1 fun _ => eX1_add (rX1_add_0 fun _ => ?_)
      have e61 : σ2 61 3 = (i : Int) := by rw [f2 61 3 (by omega)]; exact hs.1
      have hm := mean_lt (S := A.1) (L := A.2.2.2.1.getD i []) h8
      have hcr := C0_rng hA hi'
      unfold C0 at hcr
      rw [e61, show ((i : Int).toNat) = i from rfl]
      refine ⟨fun z => by omega, fun _ => ⟨by omega, by omega, by omega, by omega, by omega, fun _ => ih (i + 1) (by omega) _ (fun c k a b => by rw [up2_nc _ _ (by omega), up2_nc _ _ (by omega), up2_nc _ _ (by omega)]; exact f12 c k a b) ⟨by rw [up2_s]; omega, by omega, fun k hk => mean_lt h8, fun k hk => ?_⟩⟩⟩
      rw [up2_nc _ _ (show (62 : Nat) ≠ 61 by decide), up2_nc _ _ (show (64 : Nat) ≠ 61 by decide), up2_nc _ _ (show (62 : Nat) ≠ 64 by decide)]
      by_cases q : k = i
      · rw [q, up2_s, up2_s]; exact ⟨rfl, rfl⟩
      · rw [up2_nk _ _ q, up2_nk _ _ q, up2_nc _ _ (show (64 : Nat) ≠ 62 by decide), f2 62 k (by omega), f2 64 k (by omega)]
        exact hs.2.2.2 k (by omega)
  exact loop A.2.2.2.1.length 0 (by omega) _ (fun c k a b => up2_nc _ _ (by omega)) ⟨up2_s _ _ _ _, by decide, fun k hk => by omega, fun k hk => by omega⟩
def opHears (A : AS) (k d : Int) : Int × AS := (if 0 ≤ k ∧ k < A.2.2.2.1.length then (if 0 ≤ d ∧ d < 21 then (thk A d.toNat k.toNat : Int) else -3) else -2, A)
def opTells (A : AS) (t d : Int) : Int × AS := (if isThingN A.1 t then (if 0 ≤ d ∧ d < 21 then saidF (thk A d.toNat) (C0 A) t.toNat A.2.2.2.1.length else -3) else -2, A)
def endsF (A : AS) : Nat → Int
  | 0 => -1
  | e + 1 => if chgF (thk A (20 - e)) (thk A (21 - e)) A.2.2.2.1.length = 0 then ((20 - e : Nat) : Int) else endsF A e
def opEnds (A : AS) : Int × AS := (endsF A 21, A)
theorem c_hears {CK : CKt} {X : Cx} {A : AS} {m : Nat} {σ : Sg} {k d : Int} (hCK : okCK CK) (h : InvC CK A m σ) (hA : okA A) (hk : inI k) (hd : inI d) : doesC CK m (opHears A k d) σ (KX11_hears X k d σ) := by
  intro Q K
  unfold opHears at K
  have i6 := h.2.2.2.2.2.1
  have hl := hA.2.2.1.1
  refine eX11_hears (rX11_hears_0 fun _ => s_isWithin hk (by rw [i6.1]; omega) fun _ => ?_)
  rw [i6.1]
  by_cases q : 0 ≤ k ∧ k < (A.2.2.2.1.length : Int)
  · rw [if_pos q] at K ⊢
    refine ⟨by decide, fun _ => s_isWithin hd (by decide) fun _ => ?_, fun z => absurd z (by decide)⟩
    by_cases q3 : 0 ≤ d ∧ d < 21
    · rw [if_pos q3] at K ⊢
      obtain ⟨d, rfl⟩ : ∃ j : Nat, d = j := ⟨d.toNat, by omega⟩
      refine ⟨by decide, fun _ => s_think hCK h hA (by omega) fun σ' hf hs _ => ⟨by omega, ?_⟩, fun z => absurd z (by decide)⟩
      rw [(hs.2.2.2 k.toNat (by omega)).1]
      exact K σ' (fun c k z => hf c k (by omega) (by omega)) (h.frame hCK hl (frH_scr hf)).more
    · rw [if_neg q3] at K ⊢
      exact ⟨by decide, fun z => absurd rfl z, fun _ => K σ (fun _ _ _ => rfl) h.more⟩
  · rw [if_neg q] at K ⊢
    exact ⟨by decide, fun z => absurd rfl z, fun _ => K σ (fun _ _ _ => rfl) h.more⟩
theorem c_tells {CK : CKt} {X : Cx} {A : AS} {m : Nat} {σ : Sg} {t d : Int} (hCK : okCK CK) (h : InvC CK A m σ) (hA : okA A) (ht : inI t) (hd : inI d) : doesC CK m (opTells A t d) σ (KX11_tells X t d σ) := by
  intro Q K
  unfold opTells at K
  have h8 := hA.1.1
  have hl := hA.2.2.1.1
  refine eX11_tells (rX11_tells_0 fun _ => s_has h.1.1 h8 ht fun _ => ?_)
  by_cases q : 0 ≤ t ∧ t < (A.1.1 : Int)
  · rw [if_pos q] at K ⊢
    refine ⟨by decide, fun _ => s_isWithin hd (by decide) fun _ => ?_, fun z => absurd z (by decide)⟩
    by_cases q3 : 0 ≤ d ∧ d < 21
    · rw [if_pos q3] at K ⊢
      obtain ⟨d, rfl⟩ : ∃ j : Nat, d = j := ⟨d.toNat, by omega⟩
      obtain ⟨t, rfl⟩ : ∃ j : Nat, t = j := ⟨t.toNat, by omega⟩
      refine ⟨by decide, fun _ => s_think hCK h hA (by omega) fun σ' hf hs _ => s_saidOf hs (by omega) fun _ => ?_, fun z => absurd z (by decide)⟩
      exact K σ' (fun c k z => hf c k (by omega) (by omega)) (h.frame hCK hl (frH_scr hf)).more
    · rw [if_neg q3] at K ⊢
      exact ⟨by decide, fun z => absurd rfl z, fun _ => K σ (fun _ _ _ => rfl) h.more⟩
  · rw [if_neg q] at K ⊢
    exact ⟨by decide, fun z => absurd rfl z, fun _ => K σ (fun _ _ _ => rfl) h.more⟩
theorem chg_01 {T U : Nat → Nat} : ∀ n, chgF T U n = 0 ∨ chgF T U n = 1
  | 0 => Or.inl rfl
  | n + 1 => by
    have e : chgF T U (n + 1) = (if U n ≠ T n then (1 : Int) else chgF T U n) := rfl
    rw [e]
    split
    · exact Or.inr rfl
    · exact chg_01 n
theorem c_ends {CK : CKt} {X : Cx} {A : AS} {m : Nat} {σ : Sg} (hCK : okCK CK) (h : InvC CK A m σ) (hA : okA A) : doesC CK m (opEnds A) σ (KX11_ends X σ) := by
  intro Q K
  unfold opEnds at K
  have h8 := hA.1.1
  have hl := hA.2.2.1.1
  refine eX11_ends (rX11_ends_0 fun _ => s_think (d := 0) hCK h hA (by decide) fun σ0 f0 hs0 _ => ?_)
  have loop : ∀ e i : Nat, i + e = 21 → ∀ σ1 : Sg, frH σ σ1 → hstC A.2.2.2.1.length (thk A i) (C0 A) σ1 → (∀ σ', frH σ σ' → Q (endsF A e) σ') → GX11_ends_7 X i σ1 Q := by
    intro e
    induction e with
    | zero =>
      intro i hi σ1 f1 hs k
      exact rX11_ends_7 fun _ => ⟨by omega, fun _ => k σ1 f1, fun z => by omega⟩
    | succ e ih =>
      intro i hi σ1 f1 hs k
      have e1 : σ1 1 1 = (A.1.1 : Int) := by rw [f1 1 1 (by omega) (by omega)]; exact h.1.1
      unfold endsF at k
      rw [show 20 - e = i by omega, show 21 - e = i + 1 by omega] at k
      refine rX11_ends_7 fun _ => ⟨by omega, fun z => by omega, fun _ => ?_⟩
      rw [e1]
      refine s_deepen hs h8 fun σ2 f2 hs2 _ => ?_
      have f12 : frH σ σ2 := fun c k a b => by rw [f2 c k (by omega) (by omega)]; exact f1 c k a b
      have c01 := chg_01 (T := thk A i) (U := thk A (i + 1)) A.2.2.2.1.length
      have hn : nextT (thk A i) (C0 A) A.2.2.2.1.length A.1.1 = thk A (i + 1) := rfl
      rw [hn] at hs2 ⊢
      refine ⟨by omega, fun z => ih (i + 1) (by omega) σ2 f12 hs2 fun σ' hf => ?_, fun z => ?_⟩
      · have := k σ' hf; rw [if_neg z] at this; exact this
      · have := k σ2 f12; rw [if_pos z] at this; exact this
  exact loop 21 0 rfl σ0 f0 hs0 fun σ' hf => K σ' (fun c k z => hf c k (by omega) (by omega)) (h.frame hCK hl (frH_scr hf)).more
