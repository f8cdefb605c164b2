/-! twin: what both find -/
def cnt (q : Nat → Bool) : Nat → Nat
  | 0 => 0
  | n + 1 => cnt q n + (if q n then 1 else 0)
theorem cnt_congr {q q' : Nat → Bool} : ∀ n, (∀ t, t < n → q t = q' t) → cnt q n = cnt q' n
  | 0, _ => rfl
  | n + 1, h => by
    show cnt q n + _ = cnt q' n + _
    rw [cnt_congr n fun t ht => h t (by omega), h n (by omega)]
theorem cnt_le (q : Nat → Bool) : ∀ n, cnt q n ≤ n
  | 0 => Nat.le_refl _
  | n + 1 => by
    show cnt q n + _ ≤ n + 1
    have := cnt_le q n
    split <;> omega
theorem cnt_mono {q q' : Nat → Bool} : ∀ n, (∀ t, t < n → q t = true → q' t = true) → cnt q n ≤ cnt q' n
  | 0, _ => Nat.le_refl _
  | n + 1, h => by
    show cnt q n + _ ≤ cnt q' n + _
    have a := cnt_mono n fun t ht => h t (by omega)
    have b := h n (by omega)
    by_cases c : q n = true
    · rw [if_pos c, if_pos (b c)]; omega
    · rw [if_neg c]; omega
theorem cnt_more {q q' : Nat → Bool} : ∀ n, (∀ t, t < n → q t = true → q' t = true) → (∃ t, t < n ∧ q t = false ∧ q' t = true) → cnt q n + 1 ≤ cnt q' n
  | 0, _, ⟨t, ht, _⟩ => absurd ht (by omega)
  | n + 1, h, ⟨t, ht, h1, h2⟩ => by
    show cnt q n + _ + 1 ≤ cnt q' n + _
    by_cases e : t = n
    · subst e
      have a := cnt_mono t fun u hu => h u (by omega)
      rw [if_neg (by simp [h1]), if_pos h2]; omega
    · have a := cnt_more n (fun u hu => h u (by omega)) ⟨t, by omega, h1, h2⟩
      have b := h n (by omega)
      by_cases c : q n = true
      · rw [if_pos c, if_pos (b c)]; omega
      · rw [if_neg c]; omega
theorem pc8_cnt {x n : Nat} {p : Nat → Bool} (h : n ≤ 8) : pc8 (x &&& bsN n p) = cnt (fun t => x.testBit t && p t) n := by
  have e : ∀ i, (x &&& bsN n p).testBit i = (decide (i < n) && (x.testBit i && p i)) := fun i => by
    rw [Nat.testBit_and, bsN_bit]; cases x.testBit i <;> cases decide (i < n) <;> simp
  unfold pc8
  rw [e, e, e, e, e, e, e, e]
  rcases (show n = 0 ∨ n = 1 ∨ n = 2 ∨ n = 3 ∨ n = 4 ∨ n = 5 ∨ n = 6 ∨ n = 7 ∨ n = 8 by omega) with rfl | rfl | rfl | rfl | rfl | rfl | rfl | rfl | rfl <;> simp [cnt]
/-- the first thing that a thing is like -/
def lstF (R : Nat → Nat → Bool) (t : Nat) : Nat → Nat
  | 0 => t
  | d + 1 => if R (t - (d + 1)) t then t - (d + 1) else lstF R t d
def lst (R : Nat → Nat → Bool) (t : Nat) : Nat := lstF R t t
theorem lstF_is {R : Nat → Nat → Bool} {t : Nat} (hr : R t t = true) : ∀ d, d ≤ t → t - d ≤ lstF R t d ∧ lstF R t d ≤ t ∧ R (lstF R t d) t = true ∧ ∀ o, t - d ≤ o → o < lstF R t d → R o t = false
  | 0, _ => ⟨by show t - 0 ≤ t; omega, Nat.le_refl _, hr, fun o a b => by have b : o < t := b; omega⟩
  | d + 1, h => by
    have e : lstF R t (d + 1) = (if R (t - (d + 1)) t then t - (d + 1) else lstF R t d) := rfl
    rw [e]
    split
    · rename_i c
      exact ⟨Nat.le_refl _, Nat.sub_le _ _, c, fun o a b => by omega⟩
    · rename_i c
      obtain ⟨a, b, c', f⟩ := lstF_is hr d (by omega)
      refine ⟨by omega, b, c', fun o h1 h2 => ?_⟩
      by_cases q : o = t - (d + 1)
      · rw [q]; simpa using c
      · exact f o (by omega) h2
theorem lst_is {R : Nat → Nat → Bool} {t : Nat} (hr : R t t = true) : lst R t ≤ t ∧ R (lst R t) t = true ∧ ∀ o, o < lst R t → R o t = false := by
  obtain ⟨_, b, c, d⟩ := lstF_is hr t (Nat.le_refl _)
  exact ⟨b, c, fun o ho => d o (by omega) ho⟩
def eqv (R : Nat → Nat → Bool) : Prop := (∀ a, R a a = true) ∧ (∀ a b, R a b = true → R b a = true) ∧ ∀ a b c, R a b = true → R b c = true → R a c = true
theorem lst_iff {R : Nat → Nat → Bool} (h : eqv R) (a b : Nat) : lst R a = lst R b ↔ R a b = true := by
  obtain ⟨hr, hs, ht⟩ := h
  obtain ⟨a1, a2, a3⟩ := lst_is (hr a)
  obtain ⟨b1, b2, b3⟩ := lst_is (hr b)
  constructor
  · intro e
    rw [← e] at b2
    exact ht _ _ _ (hs _ _ a2) b2
  · intro e
    rcases Nat.lt_trichotomy (lst R a) (lst R b) with q | q | q
    · have := b3 _ q; rw [ht _ _ _ a2 e] at this; cases this
    · exact q
    · have := a3 _ q; rw [ht _ _ _ b2 (hs _ _ e)] at this; cases this
theorem lst_idem {R : Nat → Nat → Bool} (h : eqv R) (a : Nat) : lst R (lst R a) = lst R a := (lst_iff h _ _).mpr (lst_is (h.1 a)).2.1
def lnk (S : Sc) (r t : Nat) : Nat := (S.2 r t).toNat
def hm (S : Sc) (s : Nat → Nat) (x v : Nat) : Nat := cnt (fun t => x.testBit t && decide (s t = v)) S.1
def many (S : Sc) (s : Nat → Nat) (a b : Nat) : Bool := (List.range S.1).all (fun k => decide (hm S s (lnk S 5 a) (s k) = hm S s (lnk S 5 b) (s k)) && decide (hm S s (lnk S 6 a) (s k) = hm S s (lnk S 6 b) (s k)) && decide (hm S s (lnk S 7 a) (s k) = hm S s (lnk S 7 b) (s k)))
def alk (S : Sc) (s : Nat → Nat) (a b : Nat) : Bool := decide (s a = s b) && many S s a b
theorem many_iff {S : Sc} {s : Nat → Nat} {a b : Nat} : many S s a b = true ↔ ∀ k, k < S.1 → ∀ r, 5 ≤ r → r < 8 → hm S s (lnk S r a) (s k) = hm S s (lnk S r b) (s k) := by
  unfold many
  rw [rng_at S]
  constructor
  · intro h k hk r h5 h8
    have := h k hk
    simp at this
    rcases (show r = 5 ∨ r = 6 ∨ r = 7 by omega) with rfl | rfl | rfl
    · exact this.1.1
    · exact this.1.2
    · exact this.2
  · intro h k hk
    simp
    exact ⟨⟨h k hk 5 (by decide) (by decide), h k hk 6 (by decide) (by decide)⟩, h k hk 7 (by decide) (by decide)⟩
theorem alk_eqv (S : Sc) (s : Nat → Nat) : eqv (alk S s) := by
  have e : ∀ a b, alk S s a b = true ↔ s a = s b ∧ many S s a b = true := fun a b => by unfold alk; simp
  refine ⟨fun a => (e a a).mpr ⟨rfl, many_iff.mpr fun _ _ _ _ _ => rfl⟩, fun a b h => ?_, fun a b c h1 h2 => ?_⟩
  · obtain ⟨x, y⟩ := (e a b).mp h
    exact (e b a).mpr ⟨x.symm, many_iff.mpr fun k hk r h5 h8 => (many_iff.mp y k hk r h5 h8).symm⟩
  · obtain ⟨x, y⟩ := (e a b).mp h1
    obtain ⟨x', y'⟩ := (e b c).mp h2
    exact (e a c).mpr ⟨x.trans x', many_iff.mpr fun k hk r h5 h8 => (many_iff.mp y k hk r h5 h8).trans (many_iff.mp y' k hk r h5 h8)⟩
def like0 (S : Sc) (a b : Nat) : Bool := decide (S.2 0 a = S.2 0 b ∧ S.2 1 a = S.2 1 b ∧ S.2 3 a = S.2 3 b)
theorem like0_eqv (S : Sc) : eqv (like0 S) := by
  have e : ∀ a b, like0 S a b = true ↔ S.2 0 a = S.2 0 b ∧ S.2 1 a = S.2 1 b ∧ S.2 3 a = S.2 3 b := fun a b => by unfold like0; simp
  refine ⟨fun a => (e a a).mpr ⟨rfl, rfl, rfl⟩, fun a b h => ?_, fun a b c h1 h2 => ?_⟩
  · have := (e a b).mp h; exact (e b a).mpr ⟨this.1.symm, this.2.1.symm, this.2.2.symm⟩
  · have x := (e a b).mp h1; have y := (e b c).mp h2
    exact (e a c).mpr ⟨x.1.trans y.1, x.2.1.trans y.2.1, x.2.2.trans y.2.2⟩
/-- a sort: the first of its kind -/
def isSort (s : Nat → Nat) : Prop := ∃ R, eqv R ∧ s = lst R
theorem isSort.le {s : Nat → Nat} (h : isSort s) (t : Nat) : s t ≤ t := by obtain ⟨R, h, rfl⟩ := h; exact (lst_is (h.1 t)).1
theorem isSort.idem {s : Nat → Nat} (h : isSort s) (t : Nat) : s (s t) = s t := by obtain ⟨R, h, rfl⟩ := h; exact lst_idem h t
theorem isSort.first {s : Nat → Nat} (h : isSort s) {t o : Nat} (ho : s o = s t) : s t ≤ o := by rw [← ho]; exact h.le o
def fnr (S : Sc) (s : Nat → Nat) : Nat → Nat := lst (alk S s)
def chT (S : Sc) (s : Nat → Nat) (t : Nat) : Bool := (List.range S.1).any (fun o => decide (s o = s t) && !alk S s o t)
def chA (S : Sc) (s : Nat → Nat) : Bool := (List.range S.1).any (chT S s)
theorem chT_iff {S : Sc} {s : Nat → Nat} {t : Nat} : chT S s t = true ↔ ∃ o, o < S.1 ∧ s o = s t ∧ alk S s o t = false := by
  unfold chT
  rw [List.any_eq_true]
  constructor
  · rintro ⟨o, ho, h⟩
    simp at h
    exact ⟨o, List.mem_range.mp ho, h.1, h.2⟩
  · rintro ⟨o, ho, h1, h2⟩
    exact ⟨o, List.mem_range.mpr ho, by simp [h1, h2]⟩
theorem chA_iff {S : Sc} {s : Nat → Nat} : chA S s = true ↔ ∃ t, t < S.1 ∧ chT S s t = true := by
  unfold chA
  rw [List.any_eq_true]
  exact ⟨fun ⟨t, ht, h⟩ => ⟨t, List.mem_range.mp ht, h⟩, fun ⟨t, ht, h⟩ => ⟨t, List.mem_range.mpr ht, h⟩⟩
def reps (S : Sc) (s : Nat → Nat) : Nat := cnt (fun t => decide (s t = t)) S.1
theorem alk_s {S : Sc} {s : Nat → Nat} {a b : Nat} (h : alk S s a b = true) : s a = s b := by unfold alk at h; simp at h; exact h.1
theorem fnr_sort (S : Sc) (s : Nat → Nat) : isSort (fnr S s) := ⟨_, alk_eqv S s, rfl⟩
theorem reps_more {S : Sc} {s : Nat → Nat} (hs : isSort s) (hc : chA S s = true) : reps S s + 1 ≤ reps S (fnr S s) := by
  have hE := alk_eqv S s
  have fl := fun t => lst_is (hE.1 t)
  refine cnt_more S.1 (fun t ht h => ?_) ?_
  · simp at h ⊢
    have a := alk_s (fl t).2.1
    have b := hs.first a.symm
    have c := (fl t).1
    show lst (alk S s) t = t
    have d := hs.le (lst (alk S s) t)
    omega
  · obtain ⟨t, ht, h⟩ := chA_iff.mp hc
    obtain ⟨o, ho, h1, h2⟩ := chT_iff.mp h
    have ne : fnr S s o ≠ fnr S s t := fun e => by rw [(lst_iff hE o t).mp e] at h2; cases h2
    have key : ∀ u, u < S.1 → s u = s t → fnr S s u ≠ s t → ∃ v, v < S.1 ∧ decide (s v = v) = false ∧ decide (fnr S s v = v) = true := fun u hu e hne => by
      refine ⟨fnr S s u, by have := (fl u).1; show lst (alk S s) u < S.1; omega, ?_, ?_⟩
      · have : s (fnr S s u) = s u := alk_s (fl u).2.1
        simp; omega
      · simp; exact lst_idem hE u
    by_cases q : fnr S s o = s t
    · exact key t ht rfl (fun e => ne (q.trans e.symm))
    · exact key o ho h1 q
theorem reps_le (S : Sc) (s : Nat → Nat) : reps S s ≤ S.1 := cnt_le _ _
/-- nothing parts: the same sorts -/
theorem fnr_same {S : Sc} {s : Nat → Nat} (hs : isSort s) (hc : chA S s = false) {t : Nat} (ht : t < S.1) : fnr S s t = s t := by
  have hE := alk_eqv S s
  obtain ⟨a, b, c⟩ := lst_is (hE.1 t)
  have e := alk_s b
  have l1 := hs.first e
  rcases Nat.lt_or_eq_of_le l1 with q | q
  · exfalso
    have := c (s t) q
    have : chT S s t = true := chT_iff.mpr ⟨s t, by omega, hs.idem t, this⟩
    have := chA_iff.mpr ⟨t, ht, this⟩
    rw [hc] at this; cases this
  · exact q.symm
def rdN (S : Sc) (s : Nat → Nat) (turn : Nat) (rd : Nat → Nat) : Nat → Nat := fun t => if chT S s t then turn else rd t
def twR (S : Sc) : Nat → Nat → (Nat → Nat) → (Nat → Nat) → (Nat → Nat) × (Nat → Nat)
  | 0, _, s, rd => (s, rd)
  | f + 1, turn, s, rd => if chA S s then twR S f (turn + 1) (fnr S s) (rdN S s turn rd) else (s, rd)
def twZ (S : Sc) : (Nat → Nat) × (Nat → Nat) := twR S 8 1 (lst (like0 S)) (fun _ => 0)
def opTwin (A : AS) (t w : Int) : Int × AS := (if isThingN A.1 t then (if 0 ≤ w ∧ w < 3 then (if w = 0 then ((twZ A.1).1 t.toNat : Int) else if w = 1 then ((twZ A.1).2 t.toNat : Int) else (reps A.1 (twZ A.1).1 : Int)) else -3) else -2, A)
theorem twR_sort {S : Sc} : ∀ f turn s rd, isSort s → isSort (twR S f turn s rd).1
  | 0, _, s, rd, h => h
  | f + 1, turn, s, rd, h => by
    unfold twR
    split
    · exact twR_sort f _ _ _ (fnr_sort S s)
    · exact h
theorem twR_rd {S : Sc} : ∀ f turn s rd, (∀ t, rd t ≤ 8) → turn + f ≤ 9 → ∀ t, (twR S f turn s rd).2 t ≤ 8
  | 0, _, s, rd, h, _ => h
  | f + 1, turn, s, rd, h, hf => by
    unfold twR
    split
    · refine twR_rd f _ _ _ (fun t => ?_) (by omega)
      unfold rdN
      have := h t
      split <;> omega
    · exact h
