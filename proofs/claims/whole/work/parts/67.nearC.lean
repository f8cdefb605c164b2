/-! the class's nearest -/
def wnt (th : Int) (x : Nat) : Prop := th = 0 ∨ pc8 x = 1
def drF (Z : AT) (th : Int) : Nat → Int
  | 0 => -1
  | n + 1 => if n ∉ Z.1 ∧ drF Z th n < (Z.2.2.1 n).1 ∧ (th = 0 ∨ pc8 n = 1) then (Z.2.2.1 n).1 else drF Z th n
theorem drF_is {Z : AT} {th : Int} (hW : ∀ x, 1 ≤ (Z.2.2.1 x).1) : ∀ n, (drF Z th n = -1 ∨ (∃ u, u < n ∧ u ∉ Z.1 ∧ wnt th u ∧ (Z.2.2.1 u).1 = drF Z th n)) ∧ -1 ≤ drF Z th n ∧ ∀ x, x < n → x ∉ Z.1 → wnt th x → (Z.2.2.1 x).1 ≤ drF Z th n
  | 0 => ⟨Or.inl rfl, Int.le_refl _, fun x hx => by omega⟩
  | n + 1 => by
    obtain ⟨h1, h2, h3⟩ := drF_is (th := th) hW n
    have e : drF Z th (n + 1) = (if n ∉ Z.1 ∧ drF Z th n < (Z.2.2.1 n).1 ∧ (th = 0 ∨ pc8 n = 1) then (Z.2.2.1 n).1 else drF Z th n) := rfl
    have := hW n
    by_cases c : n ∉ Z.1 ∧ drF Z th n < (Z.2.2.1 n).1 ∧ (th = 0 ∨ pc8 n = 1)
    · rw [if_pos c] at e
      rw [e]
      refine ⟨Or.inr ⟨n, by omega, c.1, c.2.2, rfl⟩, by omega, fun x hx hn hw => ?_⟩
      rcases Nat.lt_succ_iff_lt_or_eq.mp hx with q | rfl
      · have := h3 x q hn hw; have := c.2.1; omega
      · exact Int.le_refl _
    · rw [if_neg c] at e
      rw [e]
      refine ⟨?_, h2, fun x hx hn hw => ?_⟩
      · rcases h1 with h1 | ⟨u, a, b, d, f⟩
        · exact Or.inl h1
        · exact Or.inr ⟨u, by omega, b, d, f⟩
      · rcases Nat.lt_succ_iff_lt_or_eq.mp hx with q | rfl
        · exact h3 x q hn hw
        · rcases Int.lt_or_le (drF Z th x) (Z.2.2.1 x).1 with q | q
          · exact absurd ⟨hn, q, hw⟩ c
          · exact q
def lsI (Z : AT) (n : Nat) : Int := match nxtW Z n with
  | none => 1000
  | some m => (Z.2.2.1 m).1
theorem nx_step (Z : AT) (n : Nat) : (n ∉ Z.1 ∧ (Z.2.2.1 n).1 < lsI Z n → nxI Z (n + 1) = (n : Int) ∧ lsI Z (n + 1) = (Z.2.2.1 n).1) ∧ (¬ (n ∉ Z.1 ∧ (Z.2.2.1 n).1 < lsI Z n) → nxI Z (n + 1) = nxI Z n ∧ lsI Z (n + 1) = lsI Z n) := by
  have e : nxtW Z (n + 1) = (match nxtW Z n with
    | none => if n ∉ Z.1 ∧ (Z.2.2.1 n).1 < 1000 then some n else none
    | some m => if n ∉ Z.1 ∧ (Z.2.2.1 n).1 < (Z.2.2.1 m).1 then some n else some m) := rfl
  unfold lsI nxI
  rw [e]
  cases nxtW Z n with
  | none =>
    simp only []
    constructor
    · intro c; rw [if_pos c]; exact ⟨rfl, rfl⟩
    · intro c; rw [if_neg c]; exact ⟨rfl, rfl⟩
  | some m =>
    simp only []
    constructor
    · intro c; rw [if_pos c]; exact ⟨rfl, rfl⟩
    · intro c; rw [if_neg c]; exact ⟨rfl, rfl⟩
theorem s_nearest {X : Cx} {c0 : Nat} {Z : AT} {σ : Sg} {Q : Int → Sg → Prop} {N : Nat} {th : Int} (hw : isW c0) (hZ : okZ Z) (hs : srC c0 Z σ) (hN : 0 < N ∧ N ≤ 256) (h9 : σ c0 9 = th) (K : ∀ σ', (∀ c k, ¬ (c = c0 ∧ k = 10) → σ' c k = σ c k) → σ' c0 10 = drF Z th N → Q (if drF Z th N = -1 then -1 else nxI Z N) σ') : KX9_nearest X c0 ((N : Int) - 1) σ Q := by
  have hg := isW_ge hw
  have hway := hw.way
  refine eX9_nearest (rX9_nearest_0 hway fun _ => ?_)
  have loop : ∀ d i : Nat, i + d = N → ∀ σ1, (∀ c k, ¬ (c = c0 ∧ k = 10) → σ1 c k = σ c k) → σ1 c0 10 = drF Z th i → GX9_nearest_14 X c0 ((N : Int) - 1) (nxI Z i) (lsI Z i) i σ1 Q := by
    intro d
    induction d with
    | zero =>
      intro i hi σ1 f1 e1
      have hi : i = N := by omega
      subst hi
      have k := K σ1 f1 e1
      refine rX9_nearest_14 hway fun _ => ⟨by omega, by omega, fun _ => rX9_nearest_111 hway fun _ => ⟨fun z => ?_, fun z => ?_⟩, fun z => by omega⟩
      · rw [e1] at z
        rw [if_neg z] at k; exact k
      · rw [e1] at z
        rw [if_pos z] at k; exact k
    | succ d ih =>
      intro i hi σ1 f1 e1
      have q := hs.1 i (by omega)
      have hW := (hZ.2.2.2.1 i).2
      have st := nx_step Z i
      have nx : ∀ σ2, (∀ c k, ¬ (c = c0 ∧ k = 10) → σ2 c k = σ c k) → σ2 c0 10 = drF Z th (i + 1) → ∀ a b : Int, a = nxI Z (i + 1) → b = lsI Z (i + 1) → GX9_nearest_105 X c0 ((N : Int) - 1) a b i σ2 Q := fun σ2 f2 e2 a b ha hb => by
        rw [ha, hb]
        exact rX9_nearest_105 hway fun _ => ih (i + 1) (by omega) σ2 f2 e2
      have ed : drF Z th (i + 1) = (if i ∉ Z.1 ∧ drF Z th i < (Z.2.2.1 i).1 ∧ (th = 0 ∨ pc8 i = 1) then (Z.2.2.1 i).1 else drF Z th i) := rfl
      have lsb : inI (lsI Z i) := by
        unfold lsI
        cases nxtW Z i with
        | none => simp only []; decide
        | some m => have := (hZ.2.2.2.1 m).2; simp only []; omega
      have c46 : σ1 (c0 + 4) i = σ (c0 + 4) i := f1 _ _ (by omega)
      have c41 : σ1 (c0 + 1) i = (Z.2.2.1 i).1 := by rw [f1 _ _ (by omega)]; exact q.2.2.1
      have c49 : σ1 c0 9 = th := by rw [f1 _ _ (by omega)]; exact h9
      have to64 : i ∉ Z.1 → ∀ a b : Int, a = nxI Z (i + 1) → b = lsI Z (i + 1) → GX9_nearest_64 X c0 ((N : Int) - 1) a b i σ1 Q := by
        intro hn a b ha hb
        have st94 : drF Z th i < (Z.2.2.1 i).1 → (th = 0 ∨ pc8 i = 1) → GX9_nearest_94 X c0 ((N : Int) - 1) a b i σ1 Q := fun y1 y2 => by
          refine rX9_nearest_94 hway fun _ => ⟨by omega, nx _ (fun c k z => ?_) ?_ a b ha hb⟩
          · rw [up2_a _ _ z]; exact f1 c k z
          · rw [up2_s, ed, if_pos ⟨hn, y1, y2⟩]; exact c41
        refine rX9_nearest_64 hway fun _ => ?_
        rw [show ((i : Int).toNat) = i from rfl, c41, e1, c49]
        refine ⟨by omega, fun z => nx σ1 f1 ?_ a b ha hb, fun z => ⟨fun y => st94 z (Or.inl y), fun y => s_bitCount (by omega) fun _ => ⟨by have := pc8_le i; omega, fun y2 => nx σ1 f1 ?_ a b ha hb, fun y2 => st94 z (Or.inr (by omega))⟩⟩⟩
        · rw [ed, if_neg (fun y => by have := y.2.1; omega)]; exact e1
        · rw [ed, if_neg (fun y => by have := y.2.2; omega)]; exact e1
      refine rX9_nearest_14 hway fun _ => ⟨by omega, by omega, fun z => by omega, fun _ => ⟨by omega, fun z => by omega, fun _ => ⟨by omega, fun z => ?_, fun z => ?_⟩⟩⟩
      · rw [show ((i : Int).toNat) = i from rfl] at z ⊢
        rw [c46] at z
        have hn : i ∉ Z.1 := fun m => by have := (q.1 m).2; omega
        rw [c41]
        refine ⟨by omega, lsb, fun y => ?_, fun y => ⟨by omega, ?_⟩⟩
        · have s2 := st.2 fun c => by have := c.2; omega
          exact to64 hn _ _ s2.1.symm s2.2.symm
        · have s1 := st.1 ⟨hn, y⟩
          exact to64 hn _ _ s1.1.symm s1.2.symm
      · rw [show ((i : Int).toNat) = i from rfl, c46] at z
        have hd : i ∈ Z.1 := Decidable.byContradiction fun m => z (q.2.1 m)
        have s2 := st.2 fun c => c.1 hd
        refine nx σ1 f1 ?_ _ _ s2.1.symm s2.2.symm
        rw [ed, if_neg (fun y => y.1 hd)]; exact e1
  exact loop N 0 (by omega) _ (fun c k z => up2_a _ _ z) (by rw [up2_s]; rfl)
theorem nxtW_first (Z : AT) : ∀ n m, nxtW Z n = some m → ∀ x, x < m → x ∉ Z.1 → (Z.2.2.1 m).1 < (Z.2.2.1 x).1
  | 0, m, h => by cases h
  | n + 1, m, h => by
    have ih := nxtW_first Z n
    have is := nxtW_is Z n
    have e : nxtW Z (n + 1) = (match nxtW Z n with
      | none => if n ∉ Z.1 ∧ (Z.2.2.1 n).1 < 1000 then some n else none
      | some m => if n ∉ Z.1 ∧ (Z.2.2.1 n).1 < (Z.2.2.1 m).1 then some n else some m) := rfl
    rw [e] at h
    cases en : nxtW Z n with
    | none =>
      rw [en] at h is
      simp only [] at h is
      split at h
      · rename_i c
        have hm : n = m := Option.some.inj h
        subst hm
        intro x hx hn
        have := is x hx hn
        have := c.2
        omega
      · cases h
    | some k =>
      rw [en] at h is
      simp only [] at h is
      split at h
      · rename_i c
        have hm : n = m := Option.some.inj h
        subst hm
        intro x hx hn
        have := is.2.2.2 x hx hn
        have := c.2
        omega
      · have hm : k = m := Option.some.inj h
        subst hm
        exact ih k en
theorem nxtW_eq {Z : AT} {n m : Nat} (h1 : m < n) (h2 : m ∉ Z.1) (h3 : (Z.2.2.1 m).1 < 1000) (h4 : ∀ x, x < n → x ∉ Z.1 → (Z.2.2.1 m).1 ≤ (Z.2.2.1 x).1) (h5 : ∀ x, x < m → x ∉ Z.1 → (Z.2.2.1 m).1 < (Z.2.2.1 x).1) : nxtW Z n = some m := by
  have is := nxtW_is Z n
  cases e : nxtW Z n with
  | none =>
    rw [e] at is
    have := is m h1 h2
    omega
  | some k =>
    rw [e] at is
    obtain ⟨a, b, c, d⟩ := is
    rcases Nat.lt_trichotomy k m with q | q | q
    · have := h5 k q b
      have := d m h1 h2
      omega
    · rw [q]
    · have := nxtW_first Z n k e m q h2
      have := h4 k a b
      omega
/-- the class's search and the one that it stands for -/
def relZ (dr : Int) (Y Z : AT) : Prop := Y.1 = Z.1 ∧ Y.2.1 = Z.2.1 ∧ Y.2.2.2 = Z.2.2.2 ∧ (∀ x, x ∈ Z.1 → Y.2.2.1 x = Z.2.2.1 x) ∧ (∀ x, x ∉ Z.1 → relW dr (Y.2.2.1 x) (Z.2.2.1 x)) ∧ okZ Y
theorem relZ.mono {dr dr' : Int} {Y Z : AT} (h : relZ dr Y Z) (hd : dr' ≤ dr) : relZ dr' Y Z := by
  obtain ⟨h1, h2, h3, h4, h5, h6⟩ := h
  refine ⟨h1, h2, h3, h4, fun x hx => ?_, h6⟩
  rcases h5 x hx with q | q
  · exact Or.inl q
  · exact Or.inr ⟨by omega, by omega⟩
theorem near_same {dr th : Int} {Y Z : AT} {N : Nat} (h : relZ dr Y Z) (hZ : okZ Z) (hd : drF Y th N ≤ dr) (hn : drF Y th N ≠ -1) : nxtW Y N = nxtW Z N ∧ ∀ s, nxtW Z N = some s → Y.2.2.1 s = Z.2.2.1 s := by
  obtain ⟨h1, h2, h3, h4, h5, h6⟩ := h
  obtain ⟨u, hu, hun, -, hue⟩ := ((drF_is (th := th) (fun x => (h6.2.2.2.1 x).2.1) N).1).resolve_left hn
  have is := nxtW_is Y N
  cases e : nxtW Y N with
  | none =>
    rw [e] at is
    have q := is u hu hun
    have q2 := (h6.2.2.2.1 u).2.2
    have isZ := nxtW_is Z N
    cases e2 : nxtW Z N with
    | none => exact ⟨rfl, fun s z => by cases z⟩
    | some k =>
      rw [e2] at isZ
      exfalso
      have hk := isZ.2.1
      rw [← h1] at hk
      have := is k isZ.1 hk
      have := isZ.2.2.1
      rcases h5 k isZ.2.1 with y | y
      · have e3 : (Y.2.2.1 k).1 = (Z.2.2.1 k).1 := by rw [y]
        omega
      · omega
  | some m =>
    rw [e] at is
    obtain ⟨a, b, c, d⟩ := is
    have fst := nxtW_first Y N m e
    have mu := d u hu hun
    have hb : m ∉ Z.1 := by rw [← h1]; exact b
    have em : Y.2.2.1 m = Z.2.2.1 m := by
      rcases h5 m hb with y | y
      · exact y
      · omega
    have hm : nxtW Z N = some m := by
      refine nxtW_eq a hb (by rw [← em]; exact c) (fun x hx hxn => ?_) fun x hx hxn => ?_
      · have := d x hx (by rw [h1]; exact hxn)
        rw [← em]
        rcases h5 x hxn with y | y
        · rw [← y]; exact this
        · omega
      · have := fst x hx (by rw [h1]; exact hxn)
        rw [← em]
        rcases h5 x hxn with y | y
        · rw [← y]; exact this
        · omega
    rw [hm]
    exact ⟨rfl, fun s z => by rw [← Option.some.inj z]; exact em⟩
