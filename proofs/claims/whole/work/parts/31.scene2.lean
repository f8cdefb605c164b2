/-! THE SCENE CHANGES -/
theorem InvC.scene {CK : CKt} {A : AS} {m : Nat} {σ σ' : Sg} {S' : Sc} (hK : A.2.2.2.1.length ≤ 8) (h : InvC CK A m σ) (hf : ∀ c k, ((c = 0 ∧ k = 10) ∨ (11 ≤ c ∧ c < 69)) → σ' c k = σ c k) (h1 : atC S' σ') (h2 : zerC S' σ') (h3 : σ' 1 2 = (tsum S' : Int)) (h4 : σ' 0 11 = σ 0 11 + 1) : InvC CK (S', A.2) (m + 1) σ' := by
  obtain ⟨-, -, -, i4, i5, i6, i7, i8, i9⟩ := h
  refine ⟨h1, h2, h3, fun w hw => by rw [hf 11 w (by omega)]; exact i4 w hw, ⟨by rw [hf 12 2 (by omega)]; exact i5.1, i5.2.1, fun i hi => by rw [hf 13 i (by omega)]; exact i5.2.2 i hi⟩, ⟨by rw [hf 0 10 (by omega)]; exact i6.1, fun k hk => ?_⟩, ⟨by rw [hf 67 1 (by omega)]; exact i7.1, fun i hi => by rw [hf 68 i (by omega)]; exact i7.2 i hi⟩, by rw [h4]; omega, cache_off i9 (hf 42 8 (by omega)) (hf 49 2 (by omega)) h4⟩
  have hk' : k < A.2.2.2.1.length := hk
  exact (i6.2 k hk).frame fun c j hc => hf c j (by omega)
theorem InvM.scene {A : AS} {σ σ' : Sg} {S' : Sc} (h : InvM A σ) (hf : ∀ c k, ¬ (c = 69 ∧ k = 0) → 69 ≤ c → ¬ (70 ≤ c ∧ c ≤ 75) → σ' c k = σ c k) (h1 : atM S' σ') (h2 : zerM S' σ') : InvM (S', A.2) σ' := by
  obtain ⟨-, -, i3, i4, i5, i6⟩ := h
  refine ⟨h1, h2, fun w hw => by rw [hf 76 w (by omega) (by omega) (by omega)]; exact i3 w hw, i4.frame fun c k hc => hf c k (by omega) (by omega) (by omega), ⟨by rw [hf 69 20 (by omega) (by omega) (by omega)]; exact i5.1, fun k hk => ?_⟩, ⟨by rw [hf 69 39 (by omega) (by omega) (by omega)]; exact i6.1, fun i hi => by rw [hf 98 i (by omega) (by omega) (by omega)]; exact i6.2 i hi⟩⟩
  rw [hf 81 k (by omega) (by omega) (by omega)]
  refine ⟨(i5.2 k hk).1, fun i hi => ?_⟩
  rw [hf 82 _ (by omega) (by omega) (by omega), hf 83 _ (by omega) (by omega) (by omega)]
  exact (i5.2 k hk).2 i hi
/-- the class's answer and state after an operation; the reference's -/
def doesC (CK : CKt) (m : Nat) (R : Int × AS) (σ : Sg) (K : (Int → Sg → Prop) → Prop) : Prop := ∀ Q : Int → Sg → Prop, (∀ σ', (∀ c k, 69 ≤ c → σ' c k = σ c k) → InvC CK R.2 (m + 1) σ' → Q R.1 σ') → K Q
def doesM (R : Int × AS) (σ : Sg) (K : (Int → Sg → Prop) → Prop) : Prop := ∀ Q : Int → Sg → Prop, (∀ σ', (∀ c k, c < 69 → σ' c k = σ c k) → InvM R.2 σ' → Q R.1 σ') → K Q
theorem s_isLook {X : Cx} {σ : Sg} {Q : Int → Sg → Prop} {w : Nat} {v : Int} (hw : w < 4) (hv : inI v) (k : Q (if (if w = 2 then 1 else 0) ≤ v ∧ v ≤ (if w < 2 then 3 else if w = 2 then 9 else 7) then 1 else 0) σ) : KX5_isLook X w v σ Q := by
  refine eX5_isLook (rX5_isLook_0 fun _ => s_isWithin (by omega) (by omega) fun _ => ?_)
  rw [if_pos (by omega)]
  refine ⟨by omega, fun h => by omega, fun _ => ⟨by omega, hv, ?_⟩⟩
  have e0 : (stv 0).getD ((w : Int).toNat) 0 = (if w = 2 then 1 else 0 : Int) := by
    rcases (show w = 0 ∨ w = 1 ∨ w = 2 ∨ w = 3 by omega) with rfl | rfl | rfl | rfl <;> rfl
  have e1 : (stv 1).getD ((w : Int).toNat) 0 = (if w < 2 then 3 else if w = 2 then 9 else 7 : Int) := by
    rcases (show w = 0 ∨ w = 1 ∨ w = 2 ∨ w = 3 by omega) with rfl | rfl | rfl | rfl <;> rfl
  rw [e0, e1]
  refine ⟨fun h => ?_, fun h => ⟨by omega, hv, fun h2 => ?_, fun h2 => ?_⟩⟩
  · rw [if_neg (by omega)] at k; exact k
  · rw [if_neg (by omega)] at k; exact k
  · rw [if_pos ⟨h, h2⟩] at k; exact k
theorem s_isLookOut {X : Cx} {σ : Sg} {Q : Int → Sg → Prop} {w v : Int} (hw : inI w) (ho : ¬ (0 ≤ w ∧ w < 4)) (k : Q 0 σ) : KX5_isLook X w v σ Q := by
  refine eX5_isLook (rX5_isLook_0 fun _ => s_isWithin hw (by omega) fun _ => ?_)
  rw [if_neg ho]
  exact ⟨by omega, fun _ => k, fun h => absurd rfl h⟩
/-- thing -/
def baseS (S : Sc) (k c s p : Int) : Sc := (S.1 + 1, fun r t => if t = S.1 then (if r = 0 then k else if r = 1 then c else if r = 2 then s else if r = 4 then p else 0) else S.2 r t)
def addS (S : Sc) (k c s p : Int) : Sc := (S.1 + 1, fun r t => if r = 5 then (besS (baseS S k c s p) t : Nat) else (baseS S k c s p).2 r t)
def opThing (A : AS) (k c s p : Int) : Int × AS :=
  if (0 ≤ k ∧ k ≤ 3) ∧ (0 ≤ c ∧ c ≤ 3) ∧ (1 ≤ s ∧ s ≤ 9) ∧ (0 ≤ p ∧ p ≤ 15) then (if F_with A.1 4 p = 0 then (if A.1.1 < 8 then ((A.1.1 : Int), (addS A.1 k c s p, A.2)) else (-5, A)) else (-4, A)) else (-3, A)
theorem besS_add {S : Sc} {k c s p : Int} {t : Nat} (ht : t < S.1) : besS (addS S k c s p) t = bsN (S.1 + 1) (fun o => decide ((if o = S.1 then p else S.2 4 o) - S.2 4 t = 1 ∨ S.2 4 t - (if o = S.1 then p else S.2 4 o) = 1)) := by
  show bsN (S.1 + 1) _ = _
  refine bsN_congr _ fun o _ => ?_
  show decide ((if o = S.1 then p else S.2 4 o) - (if t = S.1 then p else S.2 4 t) = 1 ∨ (if t = S.1 then p else S.2 4 t) - (if o = S.1 then p else S.2 4 o) = 1) = _
  rw [if_neg (show ¬ t = S.1 by omega)]
theorem bes_base {S : Sc} {k c s p : Int} (t : Nat) : besS (baseS S k c s p) t = besS (addS S k c s p) t := rfl
theorem addS_ok {S : Sc} {k c s p : Int} (h : okS S) (h8 : S.1 < 8) (hk : 0 ≤ k ∧ k ≤ 3) (hc : 0 ≤ c ∧ c ≤ 3) (hs : 1 ≤ s ∧ s ≤ 9) (hp : 0 ≤ p ∧ p ≤ 15) (hn : F_with S 4 p = 0) : okS (addS S k c s p) := by
  obtain ⟨h1, h2, h3, h4, h5⟩ := h
  have hnp : ∀ t, t < S.1 → S.2 4 t ≠ p := fun t ht => by
    have := (bsN_zero _).mp hn t ht; simpa using this
  have pw := Nat.two_pow_pos S.1
  have row : ∀ r t, r ≠ 5 → t < S.1 → (addS S k c s p).2 r t = S.2 r t := fun r t hr ht => by
    show (if r = 5 then _ else (if t = S.1 then _ else S.2 r t)) = _
    rw [if_neg hr, if_neg (by omega)]
  have rown : ∀ r, r ≠ 5 → (addS S k c s p).2 r S.1 = (if r = 0 then k else if r = 1 then c else if r = 2 then s else if r = 4 then p else 0) := fun r hr => by
    show (if r = 5 then _ else (if S.1 = S.1 then _ else S.2 r S.1)) = _
    rw [if_neg hr, if_pos rfl]
  have row5 : ∀ t, (addS S k c s p).2 5 t = (besS (addS S k c s p) t : Nat) := fun t => rfl
  have b5 : ∀ t, besS (addS S k c s p) t < 256 := fun t => besS_lt (show S.1 + 1 ≤ 8 by omega) t
  refine ⟨show S.1 + 1 ≤ 8 by omega, fun t ht => ?_, fun t ht => ⟨row5 t, ?_⟩, fun a b ha hb e => ?_, fun t ht => ?_⟩
  · have hb := b5 t
    rcases Nat.lt_succ_iff_lt_or_eq.mp (show t < S.1 + 1 from ht) with q | rfl
    · have := h2 t q
      rw [row 0 t (by decide) q, row 1 t (by decide) q, row 2 t (by decide) q, row 3 t (by decide) q, row 4 t (by decide) q, row 6 t (by decide) q, row 7 t (by decide) q, row5 t]
      exact ⟨this.1, this.2.1, this.2.2.1, this.2.2.2.1, this.2.2.2.2.1, by omega, this.2.2.2.2.2.2⟩
    · rw [rown 0 (by decide), rown 1 (by decide), rown 2 (by decide), rown 3 (by decide), rown 4 (by decide), rown 6 (by decide), rown 7 (by decide), row5]
      exact ⟨hk, hc, hs, by simp, hp, by omega, by simp, by simp⟩
  · have z6 : ∀ o, o < S.1 → (S.2 6 o).toNat.testBit S.1 = false := fun o ho => Nat.testBit_lt_two_pow (by have := h5 o ho; have := (h2 o ho).2.2.2.2.2.2.1; omega)
    rcases Nat.lt_succ_iff_lt_or_eq.mp (show t < S.1 + 1 from ht) with q | rfl
    · rw [row 7 t (by decide) q, (h3 t q).2]
      congr 1
      show bsN S.1 _ = bsN S.1 _ + _
      rw [if_neg (show ¬ ((addS S k c s p).2 6 S.1).toNat.testBit t = true by rw [rown 6 (by decide)]; simp)]
      exact bsN_congr _ fun o ho => by rw [row 6 o (by decide) ho]
    · rw [rown 7 (by decide)]
      have : frS (addS S k c s p) S.1 = 0 := (bsN_zero _).mpr fun o ho => by
        rcases Nat.lt_succ_iff_lt_or_eq.mp (show o < S.1 + 1 from ho) with q | rfl
        · rw [row 6 o (by decide) q]; exact z6 o q
        · rw [rown 6 (by decide)]; simp
      rw [this]; rfl
  · rcases Nat.lt_succ_iff_lt_or_eq.mp (show a < S.1 + 1 from ha) with q | rfl <;> rcases Nat.lt_succ_iff_lt_or_eq.mp (show b < S.1 + 1 from hb) with q' | rfl
    · rw [row 4 a (by decide) q, row 4 b (by decide) q'] at e; exact h4 a b q q' e
    · rw [row 4 a (by decide) q, rown 4 (by decide)] at e; exact absurd e (hnp a q)
    · rw [row 4 b (by decide) q', rown 4 (by decide)] at e; exact absurd e.symm (hnp b q')
    · rfl
  · show _ < ((2 ^ (S.1 + 1) : Nat) : Int)
    rw [Nat.pow_succ]
    rcases Nat.lt_succ_iff_lt_or_eq.mp (show t < S.1 + 1 from ht) with q | rfl
    · rw [row 6 t (by decide) q]; have := h5 t q; omega
    · rw [rown 6 (by decide)]
      show (0 : Int) < _
      omega
theorem tsF_congr {f g : Nat → Int} : ∀ n, (∀ t, t < n → f t = g t) → tsF f n = tsF g n
  | 0, _ => rfl
  | n + 1, h => by
    show tsF f n + _ = tsF g n + _
    rw [tsF_congr n fun t ht => h t (by omega), h n (by omega)]
theorem addS_tsum {S : Sc} {k c s p : Int} : tsum (addS S k c s p) = tsum S := by
  show tsF ((addS S k c s p).2 6) S.1 + _ = tsF (S.2 6) S.1
  have e : (addS S k c s p).2 6 S.1 = 0 := by simp [addS, baseS]
  rw [e, tsF_congr S.1 (f := (addS S k c s p).2 6) (g := S.2 6) fun t ht => by
    simp [addS, baseS]
    intro z; omega]
  rfl
theorem opThing_ok {A : AS} {k c s p : Int} (h : okA A) : okA (opThing A k c s p).2 := by
  unfold opThing
  split
  · split
    · split
      · rename_i h1 h2 h3
        obtain ⟨a, b, d, e⟩ := h
        exact ⟨addS_ok a h3 h1.1 h1.2.1 h1.2.2.1 h1.2.2.2 h2, b, d, e.1, fun t ht => by have := e.2 t ht; show t < A.1.1 + 1; omega⟩
      · exact h
    · exact h
  · exact h
