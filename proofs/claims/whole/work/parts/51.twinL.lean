theorem tw_same {S : Sc} {s rd : Nat → Nat} {turn : Nat} {σ : Sg} (hs : isSort s) (hc : ¬ chA S s = true) (h : twC S (fnr S s) (rdN S s turn rd) σ) : twC S s rd σ := by
  have hc : chA S s = false := by simpa using hc
  intro t ht
  obtain ⟨a, b⟩ := h t ht
  rw [a, b]
  constructor
  · congr 1
    exact bsN_congr _ fun o ho => by rw [fnr_same hs hc ho, fnr_same hs hc ht]
  · congr 1
    unfold rdN
    rw [if_neg]
    intro z
    rw [chA_iff.mpr ⟨t, ht, z⟩] at hc
    cases hc
theorem s_find {X : Cx} {σ : Sg} {Q : Int → Sg → Prop} {S : Sc} (h : atC S σ) (ho : okR S) (K : ∀ σ', frW σ σ' → twC S (twZ S).1 (twZ S).2 σ' → Q 0 σ') : KX8_find X σ Q := by
  have h1 := h.1
  have h8 := h.2.1
  refine eX8_find (rX8_find_0 fun _ => ?_)
  have rounds : ∀ f turn : Nat, turn + f = 9 → ∀ (s rd : Nat → Nat) (σ1 : Sg), isSort s → frW σ σ1 → twC S s rd σ1 → (∀ σ', frW σ σ' → twC S (twR S f turn s rd).1 (twR S f turn s rd).2 σ' → Q 0 σ') → GX8_find_42 X turn σ1 Q := by
    intro f
    induction f with
    | zero =>
      intro turn ht s rd σ1 hs f1 t1 K
      exact rX8_find_42 fun _ => ⟨by omega, fun _ => K σ1 f1 t1, fun z => by omega⟩
    | succ f ih =>
      intro turn ht s rd σ1 hs f1 t1 K
      unfold twR at K
      refine rX8_find_42 fun _ => ⟨by omega, fun z => by omega, fun _ => s_part (h.frame' fun c k y => f1 c k (by omega)) ho (by omega) t1 fun σ2 f2 t2 _ => ?_⟩
      by_cases c : chA S s = true
      · rw [if_pos c] at K ⊢
        exact ⟨by decide, fun _ => ih (turn + 1) (by omega) _ _ σ2 (fnr_sort S s) (f1.trans f2) t2 K, fun z => absurd z (by decide)⟩
      · rw [if_neg c] at K ⊢
        refine ⟨by decide, fun z => absurd rfl z, fun _ => ?_⟩
        exact K σ2 (f1.trans f2) (tw_same hs c t2)
  have first : ∀ d i : Nat, i + d = S.1 → ∀ σ1 : Sg, frW σ σ1 → (∀ t, t < i → σ1 58 t = ((clsB S (lst (like0 S)) t : Nat) : Int) ∧ σ1 59 t = 0) → GX8_find_2 X i σ1 Q := by
    intro d
    induction d with
    | zero =>
      intro i hi σ1 f1 t1
      have hi : i = S.1 := by omega
      subst hi
      have e : σ1 1 1 = (S.1 : Int) := by rw [f1 1 1 (by omega)]; exact h1
      exact rX8_find_2 fun _ => ⟨by omega, fun _ => rX8_find_40 fun _ => rounds 8 1 rfl _ (fun _ => 0) σ1 ⟨_, like0_eqv S, rfl⟩ f1 t1 K, fun z => by omega⟩
    | succ d ih =>
      intro i hi σ1 f1 t1
      have e : σ1 1 1 = (S.1 : Int) := by rw [f1 1 1 (by omega)]; exact h1
      have cl := clsB_lt h8 (lst (like0 S)) i
      refine rX8_find_2 fun _ => ⟨by omega, fun z => by omega, fun _ => ⟨by omega, fun z => by omega, fun _ => s_looksLike (h.frame' fun c k y => f1 c k (by omega)) (by omega) fun _ => ⟨by omega, by omega, by omega, ih (i + 1) (by omega) _ (fun c k y => by rw [up2_nc _ _ (by omega), up2_nc _ _ (by omega)]; exact f1 c k y) fun t ht => ?_⟩⟩⟩
      rw [show ((i : Int).toNat) = i from rfl, up2_nc _ _ (show (58 : Nat) ≠ 59 by decide)]
      by_cases q : t = i
      · rw [q, up2_s, up2_s]; exact ⟨rfl, rfl⟩
      · rw [up2_nk _ _ q, up2_nk _ _ q, up2_nc _ _ (show (59 : Nat) ≠ 58 by decide)]; exact t1 t (by omega)
  exact first S.1 0 (by omega) σ (fun _ _ _ => rfl) fun t ht => by omega
theorem twZ_sort (S : Sc) : isSort (twZ S).1 := twR_sort _ _ _ _ ⟨_, like0_eqv S, rfl⟩
theorem twZ_rd (S : Sc) (t : Nat) : (twZ S).2 t ≤ 8 := twR_rd _ _ _ _ (fun _ => Nat.zero_le _) (by decide) t
theorem frW_scr {σ σ' : Sg} (h : frW σ σ') : ∀ c k, ¬ scr c k → σ' c k = σ c k := fun c k z => h c k (by unfold scr at z; omega)
theorem c_twin {CK : CKt} {X : Cx} {A : AS} {m : Nat} {σ : Sg} {t w : Int} (hCK : okCK CK) (h : InvC CK A m σ) (hA : okA A) (ht : inI t) (hw : inI w) : doesC CK m (opTwin A t w) σ (KX11_twin X t w σ) := by
  intro Q K
  unfold opTwin at K
  have h8 := hA.1.1
  have hl := hA.2.2.1.1
  refine eX11_twin (rX11_twin_0 fun _ => s_has h.1.1 h8 ht fun _ => ?_)
  by_cases q : 0 ≤ t ∧ t < (A.1.1 : Int)
  · rw [if_pos q] at K ⊢
    refine ⟨by decide, fun _ => s_isWithin hw (by decide) fun _ => ?_, fun z => absurd z (by decide)⟩
    by_cases q3 : 0 ≤ w ∧ w < 3
    · rw [if_pos q3] at K ⊢
      obtain ⟨t, rfl⟩ : ∃ j : Nat, t = j := ⟨t.toNat, by omega⟩
      rw [show ((t : Int).toNat) = t from rfl] at *
      have htn : t < A.1.1 := by omega
      refine ⟨by decide, fun _ => s_find h.1 hA.1.2.1 fun σ' hf tw _ => ?_, fun z => absurd z (by decide)⟩
      have k := K σ' (fun c k z => hf c k (by omega)) (h.frame hCK hl (frW_scr hf)).more
      clear K
      have hs := twZ_sort A.1
      have cl := clsB_lt h8 (twZ A.1).1 t
      have lb := clsB_lob h8 hs htn
      refine ⟨hw, fun z => ⟨by omega, ?_⟩, fun z => ⟨by omega, ?_⟩, fun z => ?_⟩
      · rw [(tw t htn).1]
        refine s_ntz cl lb.2 fun _ => ?_
        rw [lb.1]
        simp only [if_pos z] at k
        exact k
      · rw [(tw t htn).2]
        simp only [if_neg (show ¬ w = 0 by omega), if_pos z] at k
        exact k
      · simp only [if_neg z.1, if_neg z.2] at k
        rw [show σ' 1 1 = (A.1.1 : Int) by rw [hf 1 1 (by omega)]; exact h.1.1]
        refine eX8_sorts (rX8_sorts_0 fun _ => ?_)
        have loop : ∀ d i : Nat, i + d = A.1.1 → GX8_sorts_4 X A.1.1 (cnt (fun t => decide ((twZ A.1).1 t = t)) i : Nat) i σ' (fun r21 σ22 => Rng σ22 → Q r21 σ22) := by
          intro d
          induction d with
          | zero =>
            intro i hi
            have hi : i = A.1.1 := by omega
            refine rX8_sorts_4 fun _ => ⟨by omega, by omega, fun _ _ => ?_, fun z => by omega⟩
            rw [hi]; exact k
          | succ d ih =>
            intro i hi
            have nx := ih (i + 1) (by omega)
            have ce : cnt (fun t => decide ((twZ A.1).1 t = t)) (i + 1) = cnt (fun t => decide ((twZ A.1).1 t = t)) i + (if decide ((twZ A.1).1 i = i) then 1 else 0) := rfl
            rw [ce] at nx
            have cl := clsB_lt h8 (twZ A.1).1 i
            have lb := clsB_lob h8 hs (show i < A.1.1 by omega)
            refine rX8_sorts_4 fun _ => ⟨by omega, by omega, fun z => by omega, fun _ => ⟨by omega, fun z => by omega, fun _ => ⟨by omega, ?_⟩⟩⟩
            rw [show σ' 58 ((i : Int).toNat) = _ from (tw i (by omega)).1]
            refine s_ntz cl lb.2 fun _ => ?_
            rw [lb.1]
            have hle := hs.le i
            refine ⟨by omega, by omega, fun y => rX8_sorts_31 fun _ => ?_, fun y => rX8_sorts_31 fun _ => ?_⟩
            · rw [if_neg (by simp; omega)] at nx; exact nx
            · rw [if_pos (by simp; omega)] at nx; exact nx
        exact loop A.1.1 0 (by omega)
    · rw [if_neg q3] at K ⊢
      exact ⟨by decide, fun z => absurd rfl z, fun _ => K σ (fun _ _ _ => rfl) h.more⟩
  · rw [if_neg q] at K ⊢
    exact ⟨by decide, fun z => absurd rfl z, fun _ => K σ (fun _ _ _ => rfl) h.more⟩
