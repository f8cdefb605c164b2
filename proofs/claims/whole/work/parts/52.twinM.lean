/-! twin: the reference -/
def sortM (S : Sc) (s : Nat → Nat) (σ : Sg) : Prop := ∀ t, t < S.1 → σ 91 t = ((s t : Nat) : Int)
theorem m_howMany {X : Cx} {σ : Sg} {Q : Int → Sg → Prop} {S : Sc} {s : Nat → Nat} {x v : Nat} (h : atM S σ) (hs : sortM S s σ) (hx : x < 256) (hv : v < 8) (K : Q (hm S s x v : Nat) σ) : KX12_howMany X x v σ Q := by
  have h1 := h.1
  have h8 := h.2.1
  refine eX12_howMany (rX12_howMany_0 fun _ => ?_)
  have loop : ∀ d i : Nat, i + d = S.1 → GX12_howMany_5 X x v (cnt (fun t => x.testBit t && decide (s t = v)) i : Nat) i σ Q := by
    intro d
    induction d with
    | zero =>
      intro i hi
      have : i = S.1 := by omega
      subst this
      exact rX12_howMany_5 fun _ => ⟨by omega, fun _ => K, fun z => by omega⟩
    | succ d ih =>
      intro i hi
      have nx := ih (i + 1) (by omega)
      have ce : cnt (fun t => x.testBit t && decide (s t = v)) (i + 1) = cnt (fun t => x.testBit t && decide (s t = v)) i + (if (x.testBit i && decide (s i = v)) then 1 else 0) := rfl
      rw [ce] at nx
      have no : ¬ (x.testBit i && decide (s i = v)) = true → GX12_howMany_40 X x v (cnt (fun t => x.testBit t && decide (s t = v)) i : Nat) i (cnt (fun t => x.testBit t && decide (s t = v)) i : Nat) σ Q := fun y => by
        rw [if_neg y] at nx
        exact rX12_howMany_40 fun _ => rX12_howMany_41 fun _ => nx
      refine rX12_howMany_5 fun _ => ⟨by omega, fun z => by omega, fun _ => ?_⟩
      rw [bit_is (by omega) (by omega)]
      refine ⟨fun z => no (by simp [z]), fun z => ⟨by omega, by omega, ?_⟩⟩
      rw [show σ 91 ((i : Int).toNat) = ((s i : Nat) : Int) from hs i (by omega)]
      refine ⟨fun y => no (by simp; omega), fun y => rX12_howMany_41 fun _ => ?_⟩
      rw [if_pos (by rw [z]; simp; omega)] at nx
      exact nx
  exact loop S.1 0 (by omega)
theorem m_tiesTo {X : Cx} {σ : Sg} {Q : Int → Sg → Prop} {S : Sc} {t : Nat} (h : atM S σ) (ho : okR S) (ht : t < S.1) (K : Q (frS S t : Nat) σ) : KX12_tiesTo X t σ Q := by
  have h1 := h.1
  have h8 := h.2.1
  refine eX12_tiesTo (rX12_tiesTo_0 fun _ => ?_)
  have loop : ∀ d i : Nat, i + d = S.1 → GX12_tiesTo_4 X t (bsN i (fun o => (S.2 6 o).toNat.testBit t) : Nat) i σ Q := by
    intro d
    induction d with
    | zero =>
      intro i hi
      have : i = S.1 := by omega
      subst this
      exact rX12_tiesTo_4 fun _ => ⟨by omega, fun _ => K, fun z => by omega⟩
    | succ d ih =>
      intro i hi
      have nx := ih (i + 1) (by omega)
      have q := (ho i (by omega)).2.2.2.2.2.2.1
      have e6 : σ 75 ((i : Int).toNat) = ((S.2 6 i).toNat : Int) := by rw [show σ 75 ((i : Int).toNat) = S.2 6 i from (h.2.2 i (by omega)).2.2.2.2.2]; omega
      refine rX12_tiesTo_4 fun _ => ⟨by omega, fun z => by omega, fun _ => ⟨by omega, ?_⟩⟩
      rw [e6, bit_iff (by omega) (by omega)]
      have bl := bsN_256 (n := i) (by omega) (fun o => (S.2 6 o).toNat.testBit t)
      by_cases y : (S.2 6 i).toNat.testBit t = true
      · rw [if_pos y, bs_in (p := fun o => (S.2 6 o).toNat.testBit t) (by omega) y]; exact nx
      · rw [if_neg y, zshl_0 (by omega), zor_0 (by omega)]
        rw [bs_out (p := fun o => (S.2 6 o).toNat.testBit t) y] at nx
        exact nx
  exact loop S.1 0 (by omega)
theorem hm_no {S : Sc} {s : Nat → Nat} {x v : Nat} (h : ∀ t, t < S.1 → s t ≠ v) : hm S s x v = 0 := by
  unfold hm
  have : ∀ n, (∀ t, t < n → s t ≠ v) → cnt (fun t => x.testBit t && decide (s t = v)) n = 0 := by
    intro n
    induction n with
    | zero => intro _; rfl
    | succ n ih =>
      intro h
      show cnt _ n + _ = 0
      rw [ih fun t ht => h t (by omega)]
      simp [h n (by omega)]
  exact this S.1 h
theorem many_all {S : Sc} {s : Nat → Nat} {a b : Nat} (hs : isSort s) : many S s a b = true ↔ ∀ v, v < S.1 → hm S s (lnk S 5 a) v = hm S s (lnk S 5 b) v ∧ hm S s (lnk S 6 a) v = hm S s (lnk S 6 b) v ∧ hm S s (lnk S 7 a) v = hm S s (lnk S 7 b) v := by
  rw [many_iff]
  constructor
  · intro h v hv
    by_cases q : ∃ k, k < S.1 ∧ s k = v
    · obtain ⟨k, hk, rfl⟩ := q
      exact ⟨h k hk 5 (by decide) (by decide), h k hk 6 (by decide) (by decide), h k hk 7 (by decide) (by decide)⟩
    · have n := fun x => hm_no (S := S) (s := s) (x := x) (v := v) fun t ht e => q ⟨t, ht, e⟩
      rw [n, n, n, n, n, n]; exact ⟨rfl, rfl, rfl⟩
  · intro h k hk r h5 h8
    have := h (s k) (by have := hs.le k; omega)
    rcases (show r = 5 ∨ r = 6 ∨ r = 7 by omega) with rfl | rfl | rfl
    · exact this.1
    · exact this.2.1
    · exact this.2.2
theorem hm_le {S : Sc} {s : Nat → Nat} {x v : Nat} : hm S s x v ≤ S.1 := cnt_le _ _
theorem m_areAlike {X : Cx} {σ : Sg} {Q : Int → Sg → Prop} {S : Sc} {s : Nat → Nat} {a b : Nat} (h : atM S σ) (ho : okR S) (hB : okB2 S) (hso : isSort s) (hs : sortM S s σ) (ha : a < S.1) (hb : b < S.1) (K : Q (if alk S s a b then 1 else 0) σ) : KX12_areAlike X a b σ Q := by
  have h1 := h.1
  have h8 := h.2.1
  have la := hso.le a
  have lb := hso.le b
  have eq : alk S s a b = (decide (s a = s b) && many S s a b) := rfl
  refine eX12_areAlike (rX12_areAlike_0 fun _ => ⟨by omega, by omega, ?_⟩)
  rw [show σ 91 ((a : Int).toNat) = ((s a : Nat) : Int) from hs a ha, show σ 91 ((b : Int).toNat) = ((s b : Nat) : Int) from hs b hb]
  have zero : ∀ v : Int, inI v → Q 0 σ → GX12_areAlike_24 X a b 0 v σ Q := fun v hv k => rX12_areAlike_24 fun _ => ⟨hv, fun _ => ⟨Or.inl rfl, k⟩, fun _ => ⟨by decide, fun _ => ⟨Or.inl rfl, k⟩, fun y => absurd rfl y⟩⟩
  refine ⟨fun z => rX12_areAlike_20 fun _ => zero 0 (by decide) ?_, fun z => rX12_areAlike_20 fun _ => ?_⟩
  · rw [eq, decide_eq_false (by omega)] at K; exact K
  · rw [eq, decide_eq_true (by omega), Bool.true_and] at K
    have l5 : ∀ t, t < S.1 → lnk S 5 t = besS S t ∧ lnk S 7 t = frS S t := fun t ht => by
      have q := hB t ht
      unfold lnk; rw [q.1, q.2]; exact ⟨rfl, rfl⟩
    have a5 := l5 a ha
    have b5 := l5 b hb
    have l6 : ∀ t, t < S.1 → σ 75 t = ((lnk S 6 t : Nat) : Int) ∧ lnk S 6 t < 256 := fun t ht => by
      have q := lnk_lt ho (r := 6) (by decide) (by decide) ht
      exact ⟨by rw [q.2]; exact (h.2.2 t ht).2.2.2.2.2, q.1⟩
    have bes := besS_lt (S := S) h8
    have frl : ∀ t, frS S t < 256 := fun t => bsN_256 h8 _
    have loop : ∀ d v : Nat, v + d = S.1 → (∀ u, u < v → hm S s (lnk S 5 a) u = hm S s (lnk S 5 b) u ∧ hm S s (lnk S 6 a) u = hm S s (lnk S 6 b) u ∧ hm S s (lnk S 7 a) u = hm S s (lnk S 7 b) u) → GX12_areAlike_24 X a b 1 v σ Q := by
      intro d
      induction d with
      | zero =>
        intro v hv hall
        have : v = S.1 := by omega
        subst this
        rw [if_pos ((many_all hso).mpr hall)] at K
        exact rX12_areAlike_24 fun _ => ⟨by omega, fun _ => ⟨Or.inr rfl, K⟩, fun z => by omega⟩
      | succ d ih =>
        intro v hv hall
        have bad : ¬ (hm S s (lnk S 5 a) v = hm S s (lnk S 5 b) v ∧ hm S s (lnk S 6 a) v = hm S s (lnk S 6 b) v ∧ hm S s (lnk S 7 a) v = hm S s (lnk S 7 b) v) → GX12_areAlike_118 X a b 1 v σ Q := fun y => by
          rw [if_neg (fun z => y ((many_all hso).mp z v (by omega)))] at K
          exact rX12_areAlike_118 fun _ => rX12_areAlike_119 fun _ => zero _ (by omega) K
        have hl : ∀ x, hm S s x v ≤ S.1 := fun x => hm_le
        have x1 := hl (besS S a)
        have x2 := hl (besS S b)
        have x3 := hl (lnk S 6 a)
        have x4 := hl (lnk S 6 b)
        have x5 := hl (frS S a)
        have x6 := hl (frS S b)
        rw [a5.1, a5.2, b5.1, b5.2] at bad
        refine rX12_areAlike_24 fun _ => ⟨by omega, fun z => by omega, fun _ => ⟨by decide, fun z => absurd z (by decide), fun _ => ?_⟩⟩
        refine m_besides h ho ha fun _ => m_howMany h hs (bes a) (by omega) fun _ => m_besides h ho hb fun _ => m_howMany h hs (bes b) (by omega) fun _ => ⟨by omega, by omega, fun z => bad fun y => z (by rw [y.1]), fun z1 => ⟨by omega, ?_⟩⟩
        rw [show σ 75 ((a : Int).toNat) = _ from (l6 a ha).1]
        refine m_howMany h hs (l6 a ha).2 (by omega) fun _ => ⟨by omega, ?_⟩
        rw [show σ 75 ((b : Int).toNat) = _ from (l6 b hb).1]
        refine m_howMany h hs (l6 b hb).2 (by omega) fun _ => ⟨by omega, by omega, fun z => bad fun y => z (by rw [y.2.1]), fun z2 => ?_⟩
        refine m_tiesTo h ho ha fun _ => m_howMany h hs (frl a) (by omega) fun _ => m_tiesTo h ho hb fun _ => m_howMany h hs (frl b) (by omega) fun _ => ⟨by omega, by omega, fun z => bad fun y => z (by rw [y.2.2]), fun z3 => ?_⟩
        refine rX12_areAlike_119 fun _ => ih (v + 1) (by omega) fun u hu => ?_
        rcases Nat.lt_succ_iff_lt_or_eq.mp hu with y | rfl
        · exact hall u y
        · rw [a5.1, a5.2, b5.1, b5.2]; exact ⟨by omega, by omega, by omega⟩
    exact loop S.1 0 (by omega) fun u hu => by omega
def frV (σ σ' : Sg) : Prop := ∀ c k, ¬ (91 ≤ c ∧ c ≤ 93) → σ' c k = σ c k
theorem frV.trans {σ σ1 σ2 : Sg} (h1 : frV σ σ1) (h2 : frV σ1 σ2) : frV σ σ2 := fun c k a => (h2 c k a).trans (h1 c k a)
theorem reps_pos {S : Sc} {s : Nat → Nat} (hs : isSort s) (h : 0 < S.1) : 1 ≤ reps S s := by
  have := cnt_more (q := fun _ => false) (q' := fun t => decide (s t = t)) S.1 (fun t _ z => by cases z) ⟨0, h, rfl, by have := hs.le 0; simp; omega⟩
  unfold reps; omega
theorem m_findTwins {X : Cx} {σ : Sg} {Q : Int → Sg → Prop} {S : Sc} (h : atM S σ) (ho : okR S) (hB : okB2 S) (h0 : 0 < S.1) (K : ∀ σ', frV σ σ' → (∀ t, t < S.1 → σ' 91 t = (((twZ S).1 t : Nat) : Int) ∧ σ' 93 t = (((twZ S).2 t : Nat) : Int)) → Q 0 σ') : KX12_findTwins X σ Q := by
  have h1 := h.1
  have h8 := h.2.1
  have e0 : ∀ σ1 : Sg, frV σ σ1 → σ1 69 0 = (S.1 : Int) := fun σ1 f => by rw [f 69 0 (by omega)]; exact h1
  have at1 : ∀ σ1 : Sg, frV σ σ1 → atM S σ1 := fun σ1 f => h.frame fun c k z => f c k (by omega)
  refine eX12_findTwins (rX12_findTwins_0 fun _ => ?_)
  have rounds : ∀ f turn : Nat, turn + f = 9 → ∀ (s rd : Nat → Nat) (σ1 : Sg), isSort s → turn ≤ reps S s → frV σ σ1 → (∀ t, t < S.1 → σ1 91 t = ((s t : Nat) : Int) ∧ σ1 93 t = ((rd t : Nat) : Int)) → (∀ t, rd t ≤ 8) → (∀ σ', frV σ σ' → (∀ t, t < S.1 → σ' 91 t = (((twR S f turn s rd).1 t : Nat) : Int) ∧ σ' 93 t = (((twR S f turn s rd).2 t : Nat) : Int)) → Q 0 σ') → GX12_findTwins_109 X 1 turn σ1 Q := by
    intro f
    induction f with
    | zero =>
      intro turn ht s rd σ1 hso hre f1 t1 _ K
      have := reps_le S s
      omega
    | succ f ih =>
      intro turn ht s rd σ1 hso hre f1 t1 hrd K
      refine rX12_findTwins_109 fun _ => ⟨by decide, fun z => absurd z (by decide), fun _ => ?_⟩
      -- the finer sorts
      have last : ∀ σ2 : Sg, frV σ σ2 → (∀ t, t < S.1 → σ2 91 t = ((s t : Nat) : Int)) → (∀ t, t < S.1 → σ2 92 t = ((fnr S s t : Nat) : Int)) → (∀ t, t < S.1 → σ2 93 t = ((rdN S s turn rd t : Nat) : Int)) → GX12_findTwins_300 X (if chA S s then 1 else 0) turn 0 σ2 Q := by
        intro σ2 f2 a2 b2 c2
        have loop : ∀ d i : Nat, i + d = S.1 → ∀ σ3 : Sg, (∀ c k, c ≠ 91 → σ3 c k = σ2 c k) → (∀ t, t < i → σ3 91 t = ((fnr S s t : Nat) : Int)) → GX12_findTwins_300 X (if chA S s then 1 else 0) turn i σ3 Q := by
          intro d
          induction d with
          | zero =>
            intro i hi σ3 f3 a3
            have hi : i = S.1 := by omega
            subst hi
            have f03 : frV σ σ3 := fun c k z => by rw [f3 c k (by omega)]; exact f2 c k z
            refine rX12_findTwins_300 fun _ => ⟨by omega, fun _ => ?_, fun z => by have := e0 σ3 f03; omega⟩
            unfold twR at K
            by_cases c : chA S s = true
            · rw [if_pos c] at K ⊢
              have := reps_more hso c
              refine ih (turn + 1) (by omega) _ _ σ3 (fnr_sort S s) (by omega) f03 (fun t ht' => ⟨a3 t ht', by rw [f3 93 t (by decide)]; exact c2 t ht'⟩) (fun t => ?_) K
              unfold rdN
              have := hrd t
              split <;> omega
            · rw [if_neg c] at K ⊢
              refine rX12_findTwins_109 fun _ => ⟨by decide, fun _ => K σ3 f03 fun t ht' => ?_, fun z => absurd rfl z⟩
              have hc : chA S s = false := by simpa using c
              refine ⟨by rw [a3 t ht', fnr_same hso hc ht'], ?_⟩
              rw [f3 93 t (by decide), c2 t ht']
              congr 1
              unfold rdN
              rw [if_neg]
              intro z
              rw [chA_iff.mpr ⟨t, ht', z⟩] at hc
              cases hc
          | succ d ihd =>
            intro i hi σ3 f3 a3
            have f03 : frV σ σ3 := fun c k z => by rw [f3 c k (by omega)]; exact f2 c k z
            have e := e0 σ3 f03
            refine rX12_findTwins_300 fun _ => ⟨by omega, fun z => by omega, fun _ => ⟨by omega, by omega, ihd (i + 1) (by omega) _ (fun c k z => by rw [up2_nc _ _ z]; exact f3 c k z) fun t ht' => ?_⟩⟩
            rw [show ((i : Int).toNat) = i from rfl]
            by_cases q : t = i
            · rw [q, up2_s, f3 92 i (by decide)]; exact b2 i (by omega)
            · rw [up2_nk _ _ q]; exact a3 t (by omega)
        exact loop S.1 0 (by omega) σ2 (fun _ _ _ => rfl) fun t ht' => by omega
      have change : ∀ σ2 : Sg, frV σ σ2 → (∀ t, t < S.1 → σ2 91 t = ((s t : Nat) : Int)) → (∀ t, t < S.1 → σ2 92 t = ((fnr S s t : Nat) : Int)) → (∀ t, t < S.1 → σ2 93 t = ((rd t : Nat) : Int)) → GX12_findTwins_183 X 0 turn 0 σ2 Q := by
        intro σ2 f2 a2 b2 c2
        have loop : ∀ d i : Nat, i + d = S.1 → ∀ σ3 : Sg, (∀ c k, c ≠ 93 → σ3 c k = σ2 c k) → (∀ t, t < i → σ3 93 t = ((rdN S s turn rd t : Nat) : Int)) → (∀ t, i ≤ t → t < S.1 → σ3 93 t = ((rd t : Nat) : Int)) → GX12_findTwins_183 X (if anyB S s i then 1 else 0) turn i σ3 Q := by
          intro d
          induction d with
          | zero =>
            intro i hi σ3 f3 a3 b3
            have hi : i = S.1 := by omega
            subst hi
            have f03 : frV σ σ3 := fun c k z => by rw [f3 c k (by omega)]; exact f2 c k z
            have e := e0 σ3 f03
            exact rX12_findTwins_183 fun _ => ⟨by omega, fun _ => last σ3 f03 (fun t ht' => by rw [f3 91 t (by decide)]; exact a2 t ht') (fun t ht' => by rw [f3 92 t (by decide)]; exact b2 t ht') a3, fun z => by omega⟩
          | succ d ihd =>
            intro i hi σ3 f3 a3 b3
            have f03 : frV σ σ3 := fun c k z => by rw [f3 c k (by omega)]; exact f2 c k z
            have e := e0 σ3 f03
            refine rX12_findTwins_183 fun _ => ⟨by omega, fun z => by omega, fun _ => ?_⟩
            have inner : ∀ e2 j : Nat, j + e2 = S.1 → GX12_findTwins_197 X (if anyB S s i then 1 else 0) turn i (if prtB S s i j then 1 else 0) j σ3 Q := by
              intro e2
              induction e2 with
              | zero =>
                intro j hj
                have hj : j = S.1 := by omega
                subst hj
                have ce : prtB S s i S.1 = chT S s i := rfl
                rw [ce]
                have fin : ∀ v : Int, v = ((rdN S s turn rd i : Nat) : Int) → inI v → GX12_findTwins_276 X (if anyB S s i then 1 else 0) turn i (if chT S s i then 1 else 0) S.1 v i σ3 Q := by
                  intro v hv hvi
                  have nx := ihd (i + 1) (by omega) (up2 σ3 93 i v) (fun c k z => by rw [up2_nc _ _ z]; exact f3 c k z) (fun t ht' => ?_) (fun t a b => by rw [up2_nk _ _ (by omega)]; exact b3 t (by omega) b)
                  · have ae : anyB S s (i + 1) = (anyB S s i || chT S s i) := any_succ _ _
                    rw [ae] at nx
                    refine rX12_findTwins_276 fun _ => ⟨by omega, hvi, by split <;> decide, fun z => rX12_findTwins_286 fun _ => rX12_findTwins_291 fun _ => ?_, fun z => ⟨by split <;> decide, fun y => rX12_findTwins_291 fun _ => ?_, fun y => rX12_findTwins_286 fun _ => rX12_findTwins_291 fun _ => ?_⟩⟩
                    · cases a : anyB S s i
                      · rw [a] at z; exact absurd rfl z
                      · rw [a] at nx; exact nx
                    · cases a : anyB S s i
                      · cases b : chT S s i
                        · rw [a, b] at nx; exact nx
                        · rw [b] at y; exact absurd y (by decide)
                      · rw [a] at z; exact absurd z (by decide)
                    · cases b : chT S s i
                      · rw [b] at y; exact absurd rfl y
                      · rw [b, Bool.or_true] at nx; exact nx
                  · by_cases q : t = i
                    · rw [q, up2_s, hv]
                    · rw [up2_nk _ _ q]; exact a3 t (by omega)
                have rde : rdN S s turn rd i = (if chT S s i then turn else rd i) := rfl
                have hri := hrd i
                refine rX12_findTwins_197 fun _ => ⟨by omega, fun _ => ⟨by split <;> decide, fun z => ⟨by omega, fin _ ?_ ?_⟩, fun z => fin _ ?_ (by omega)⟩, fun z => by omega⟩
                · rw [show σ3 93 ((i : Int).toNat) = _ from b3 i (Nat.le_refl _) (by omega), rde]
                  cases b : chT S s i
                  · rfl
                  · rw [b] at z; exact absurd z (by decide)
                · rw [show σ3 93 ((i : Int).toNat) = _ from b3 i (Nat.le_refl _) (by omega)]; omega
                · rw [rde]
                  cases b : chT S s i
                  · rw [b] at z; exact absurd rfl z
                  · rfl
              | succ e2 ihe =>
                intro j hj
                have nx := ihe (j + 1) (by omega)
                have pe : prtB S s i (j + 1) = (prtB S s i j || (decide (s j = s i) && !alk S s j i)) := any_succ _ _
                rw [pe] at nx
                have li := hso.le i
                have lj := hso.le j
                have yes : (prtB S s i j || (decide (s j = s i) && !alk S s j i)) = true → ∀ v, GX12_findTwins_243 X (if anyB S s i then 1 else 0) turn i v j σ3 Q := fun y v => by
                  rw [y] at nx; exact rX12_findTwins_243 fun _ => rX12_findTwins_248 fun _ => nx
                have no : (prtB S s i j || (decide (s j = s i) && !alk S s j i)) = false → ∀ v, GX12_findTwins_247 X (if anyB S s i then 1 else 0) turn i v j σ3 Q := fun y v => by
                  rw [y] at nx; exact rX12_findTwins_247 fun _ => rX12_findTwins_248 fun _ => nx
                have q91 : ∀ t : Nat, t < S.1 → σ3 91 ((t : Int).toNat) = ((s t : Nat) : Int) := fun t ht' => by rw [show ((t : Int).toNat) = t from rfl, f3 91 t (by decide)]; exact a2 t ht'
                have q92 : ∀ t : Nat, t < S.1 → σ3 92 ((t : Int).toNat) = ((fnr S s t : Nat) : Int) := fun t ht' => by rw [show ((t : Int).toNat) = t from rfl, f3 92 t (by decide)]; exact b2 t ht'
                have li2 := lst_iff (alk_eqv S s) j i
                refine rX12_findTwins_197 fun _ => ⟨by omega, fun z => by omega, fun _ => ⟨by split <;> decide, fun z => yes ?_ _, fun z => ⟨by omega, by omega, ?_⟩⟩⟩
                · cases b : prtB S s i j
                  · rw [b] at z; exact absurd rfl z
                  · rfl
                · have pf : prtB S s i j = false := by
                    cases b : prtB S s i j
                    · rfl
                    · rw [b] at z; exact absurd z (by decide)
                  rw [pf, Bool.false_or] at yes no
                  rw [q91 j (by omega), q91 i (by omega), q92 j (by omega), q92 i (by omega)]
                  refine ⟨fun y => no ?_ _, fun y => ⟨by omega, by omega, fun u => no ?_ _, fun u => yes ?_ _⟩⟩
                  · rw [decide_eq_false (by omega)]; rfl
                  · have : alk S s j i = true := li2.mp (by show fnr S s j = fnr S s i; omega)
                    rw [this]; simp
                  · have : alk S s j i = false := by
                      cases b : alk S s j i
                      · rfl
                      · have e : fnr S s j = fnr S s i := li2.mpr b
                        rw [e] at u; exact absurd rfl u
                    rw [this, decide_eq_true (by omega)]; rfl
            exact inner S.1 0 (by omega)
        exact loop S.1 0 (by omega) σ2 (fun _ _ _ => rfl) (fun t ht' => by omega) fun t _ b => c2 t b
      have loop : ∀ d i : Nat, i + d = S.1 → ∀ σ2 : Sg, (∀ c k, c ≠ 92 → σ2 c k = σ1 c k) → (∀ t, t < i → σ2 92 t = ((fnr S s t : Nat) : Int)) → GX12_findTwins_117 X 0 turn i σ2 Q := by
        intro d
        induction d with
        | zero =>
          intro i hi σ2 f2 a2
          have hi : i = S.1 := by omega
          subst hi
          have f02 : frV σ σ2 := fun c k z => by rw [f2 c k (by omega)]; exact f1 c k z
          have e := e0 σ2 f02
          exact rX12_findTwins_117 fun _ => ⟨by omega, fun _ => change σ2 f02 (fun t ht' => by rw [f2 91 t (by decide)]; exact (t1 t ht').1) a2 (fun t ht' => by rw [f2 93 t (by decide)]; exact (t1 t ht').2), fun z => by omega⟩
        | succ d ihd =>
          intro i hi σ2 f2 a2
          have f02 : frV σ σ2 := fun c k z => by rw [f2 c k (by omega)]; exact f1 c k z
          have e := e0 σ2 f02
          refine rX12_findTwins_117 fun _ => ⟨by omega, fun z => by omega, fun _ => ⟨by omega, by omega, ?_⟩⟩
          rw [show ((i : Int).toNat) = i from rfl]
          have inner : ∀ e2 j : Nat, j + e2 = i → ∀ σ3 : Sg, (∀ c k, c ≠ 92 → σ3 c k = σ1 c k) → (∀ t, t < i → σ3 92 t = ((fnr S s t : Nat) : Int)) → σ3 92 i = ((lstF (alk S s) i e2 : Nat) : Int) → GX12_findTwins_137 X 0 turn i ((j : Int) - 1) σ3 Q := by
            intro e2 j
            induction j generalizing e2 with
            | zero =>
              intro hj σ3 f3 a3 b3
              have hj : e2 = i := by omega
              refine rX12_findTwins_137 fun _ => ⟨by omega, fun _ => ihd (i + 1) (by omega) σ3 f3 fun t ht' => ?_, fun z => by omega⟩
              rcases Nat.lt_succ_iff_lt_or_eq.mp ht' with y | rfl
              · exact a3 t y
              · rw [b3, hj]; rfl
            | succ j ihj =>
              intro hj σ3 f3 a3 b3
              have f03 : frV σ σ3 := fun c k z => by rw [f3 c k (by omega)]; exact f1 c k z
              have le : lstF (alk S s) i (e2 + 1) = (if alk S s (i - (e2 + 1)) i then i - (e2 + 1) else lstF (alk S s) i e2) := rfl
              rw [show i - (e2 + 1) = j by omega] at le
              have ll := (lstF_is ((alk_eqv S s).1 i) e2 (by omega)).2.1
              rw [show (((j + 1 : Nat) : Int) - 1) = (j : Int) by omega]
              have fin : ∀ v : Int, v = ((lstF (alk S s) i (e2 + 1) : Nat) : Int) → inI v → GX12_findTwins_168 X 0 turn i j v i σ3 Q := fun v hv hvi => by
                refine rX12_findTwins_168 fun _ => ⟨by omega, hvi, ?_⟩
                rw [show ((i : Int).toNat) = i from rfl, show ((j : Int) + (-1)) = (j : Int) - 1 by omega]
                exact ihj (e2 + 1) (by omega) _ (fun c k z => by rw [up2_nc _ _ z]; exact f3 c k z) (fun t ht' => by rw [up2_nk _ _ (by omega)]; exact a3 t ht') (by rw [up2_s, hv])
              refine rX12_findTwins_137 fun _ => ⟨by omega, fun z => by omega, fun _ => m_areAlike (at1 σ3 f03) ho hB hso (fun t ht' => by rw [f3 91 t (by decide)]; exact (t1 t ht').1) (by omega) (by omega) fun _ => ?_⟩
              by_cases c : alk S s j i = true
              · rw [if_pos c] at le ⊢
                exact ⟨by decide, fun z => absurd z (by decide), fun _ => fin _ (by rw [le]) (by omega)⟩
              · rw [if_neg c] at le ⊢
                refine ⟨by decide, fun _ => ⟨by omega, fin _ ?_ ?_⟩, fun z => absurd rfl z⟩
                · rw [show σ3 92 ((i : Int).toNat) = _ from b3, le]
                · rw [show σ3 92 ((i : Int).toNat) = _ from b3]; omega
          exact inner 0 i (by omega) _ (fun c k z => by rw [up2_nc _ _ z]; exact f2 c k z) (fun t ht' => by rw [up2_nk _ _ (by omega)]; exact a2 t ht') (up2_s _ _ _ _)
      exact loop S.1 0 (by omega) σ1 (fun _ _ _ => rfl) fun t ht' => by omega
  have hl : ∀ o t, like0 S o t = true ↔ S.2 0 o = S.2 0 t ∧ S.2 1 o = S.2 1 t ∧ S.2 3 o = S.2 3 t := fun o t => by unfold like0; simp
  have s0 : isSort (lst (like0 S)) := ⟨_, like0_eqv S, rfl⟩
  have first : ∀ d i : Nat, i + d = S.1 → ∀ σ1 : Sg, frV σ σ1 → (∀ t, t < i → σ1 91 t = ((lst (like0 S) t : Nat) : Int) ∧ σ1 93 t = 0) → GX12_findTwins_2 X i σ1 Q := by
    intro d
    induction d with
    | zero =>
      intro i hi σ1 f1 t1
      have hi : i = S.1 := by omega
      subst hi
      have e := e0 σ1 f1
      exact rX12_findTwins_2 fun _ => ⟨by omega, fun _ => rounds 8 1 rfl _ (fun _ => 0) σ1 s0 (reps_pos s0 h0) f1 t1 (fun _ => Nat.zero_le _) K, fun z => by omega⟩
    | succ d ihd =>
      intro i hi σ1 f1 t1
      have e := e0 σ1 f1
      refine rX12_findTwins_2 fun _ => ⟨by omega, fun z => by omega, fun _ => ⟨by omega, by omega, by omega, ?_⟩⟩
      rw [show ((i : Int).toNat) = i from rfl]
      have inner : ∀ e2 j : Nat, j + e2 = i → ∀ σ3 : Sg, frV σ σ3 → (∀ t, t < i → σ3 91 t = ((lst (like0 S) t : Nat) : Int) ∧ σ3 93 t = 0) → σ3 91 i = ((lstF (like0 S) i e2 : Nat) : Int) → σ3 93 i = 0 → GX12_findTwins_28 X i ((j : Int) - 1) σ3 Q := by
        intro e2 j
        induction j generalizing e2 with
        | zero =>
          intro hj σ3 f3 a3 b3 c3
          have hj : e2 = i := by omega
          refine rX12_findTwins_28 fun _ => ⟨by omega, fun _ => ihd (i + 1) (by omega) σ3 f3 fun t ht' => ?_, fun z => by omega⟩
          rcases Nat.lt_succ_iff_lt_or_eq.mp ht' with y | rfl
          · exact a3 t y
          · refine ⟨?_, c3⟩
            rw [b3, hj]; rfl
        | succ j ihj =>
          intro hj σ3 f3 a3 b3 c3
          have le : lstF (like0 S) i (e2 + 1) = (if like0 S (i - (e2 + 1)) i then i - (e2 + 1) else lstF (like0 S) i e2) := rfl
          rw [show i - (e2 + 1) = j by omega] at le
          have ll := (lstF_is ((like0_eqv S).1 i) e2 (by omega)).2.1
          rw [show (((j + 1 : Nat) : Int) - 1) = (j : Int) by omega]
          have fin : ∀ v : Int, v = ((lstF (like0 S) i (e2 + 1) : Nat) : Int) → inI v → GX12_findTwins_92 X i j v i σ3 Q := fun v hv hvi => by
            refine rX12_findTwins_92 fun _ => ⟨by omega, hvi, ?_⟩
            rw [show ((i : Int).toNat) = i from rfl, show ((j : Int) + (-1)) = (j : Int) - 1 by omega]
            exact ihj (e2 + 1) (by omega) _ (fun c k z => by rw [up2_nc _ _ (by omega)]; exact f3 c k z) (fun t ht' => by rw [up2_nk _ _ (by omega), up2_nc _ _ (by decide)]; exact a3 t ht') (by rw [up2_s, hv]) (by rw [up2_nc _ _ (by decide)]; exact c3)
          have no : ¬ like0 S j i = true → GX12_findTwins_86 X i j i σ3 Q := fun y => by
            rw [if_neg y] at le
            refine rX12_findTwins_86 fun _ => ⟨by omega, fin _ ?_ ?_⟩
            · rw [show σ3 91 ((i : Int).toNat) = _ from b3, le]
            · rw [show σ3 91 ((i : Int).toNat) = _ from b3]; omega
          have hat := at1 σ3 f3
          have g0 : ∀ u : Nat, u < S.1 → σ3 70 ((u : Int).toNat) = S.2 0 u := fun u hu => (hat.2.2 u hu).1
          have g1 : ∀ u : Nat, u < S.1 → σ3 71 ((u : Int).toNat) = S.2 1 u := fun u hu => (hat.2.2 u hu).2.1
          have g3 : ∀ u : Nat, u < S.1 → σ3 73 ((u : Int).toNat) = S.2 3 u := fun u hu => (hat.2.2 u hu).2.2.2.1
          refine rX12_findTwins_28 fun _ => ⟨by omega, fun z => by omega, fun _ => ⟨by omega, by omega, ?_⟩⟩
          rw [g0 j (by omega), g0 i (by omega), g1 j (by omega), g1 i (by omega), g3 j (by omega), g3 i (by omega)]
          refine ⟨fun z => no fun y => z ((hl j i).mp y).1, fun z0 => ⟨by omega, by omega, fun z => no fun y => z ((hl j i).mp y).2.1, fun z1 => ⟨by omega, by omega, fun z => no fun y => z ((hl j i).mp y).2.2, fun z3 => fin _ ?_ (by omega)⟩⟩⟩
          rw [le, if_pos ((hl j i).mpr ⟨z0, z1, z3⟩)]
      exact inner 0 i (by omega) _ (fun c k z => by rw [up2_nc _ _ (by omega), up2_nc _ _ (by omega)]; exact f1 c k z) (fun t ht' => by rw [up2_nc _ _ (show (91 : Nat) ≠ 93 by decide), up2_nk _ _ (by omega), up2_nk _ _ (by omega), up2_nc _ _ (show (93 : Nat) ≠ 91 by decide)]; exact t1 t ht') (by rw [up2_nc _ _ (by decide), up2_s]; rfl) (up2_s _ _ _ _)
  exact first S.1 0 (by omega) σ (fun _ _ _ => rfl) fun t ht' => by omega
theorem m_twin {X : Cx} {A : AS} {σ : Sg} {t w : Int} (h : InvM A σ) (hA : okA A) (ht : inI t) (hw : inI w) : doesM (opTwin A t w) σ (KX12_twin X t w σ) := by
  intro Q K
  unfold opTwin at K
  have h8 := hA.1.1
  refine eX12_twin (rX12_twin_0 fun _ => m_isThing h.1.1 h8 ht fun _ => ?_)
  by_cases q : 0 ≤ t ∧ t < (A.1.1 : Int)
  · rw [if_pos q] at K ⊢
    refine ⟨by decide, fun _ => m_in hw (by decide) (by decide) fun _ => ?_, fun z => absurd z (by decide)⟩
    by_cases q3 : 0 ≤ w ∧ w < 3
    · rw [if_pos q3] at K
      rw [if_pos (show 0 ≤ w ∧ w ≤ 2 by omega)]
      obtain ⟨t, rfl⟩ : ∃ j : Nat, t = j := ⟨t.toNat, by omega⟩
      rw [show ((t : Int).toNat) = t from rfl] at *
      have htn : t < A.1.1 := by omega
      refine ⟨by decide, fun _ => m_findTwins h.1 hA.1.2.1 hA.1.2.2.1 (by omega) fun σ' hf tw _ => ?_, fun z => absurd z (by decide)⟩
      have h' := h.frameS (σ' := σ') fun c k z => hf c k (by unfold scrM at z; omega)
      have k := K σ' (fun c k z => hf c k (by omega)) h'
      clear K
      have hs := twZ_sort A.1
      have loop : ∀ d i : Nat, i + d = A.1.1 → GX12_twin_32 X t w (cnt (fun t => decide ((twZ A.1).1 t = t)) i : Nat) i σ' Q := by
        intro d
        induction d with
        | zero =>
          intro i hi
          have hi : i = A.1.1 := by omega
          have e := h'.1.1
          refine rX12_twin_32 fun _ => ⟨by omega, fun _ => ⟨hw, fun z => ⟨hw, fun z1 => ?_, fun z1 => ⟨by omega, ?_⟩⟩, fun z => ⟨by omega, ?_⟩⟩, fun z => by omega⟩
          · simp only [if_neg z, if_neg z1] at k; rw [hi]; exact k
          · rw [show σ' 93 ((t : Int).toNat) = _ from (tw t htn).2]
            simp only [if_neg z, if_pos z1] at k; exact k
          · rw [show σ' 91 ((t : Int).toNat) = _ from (tw t htn).1]
            simp only [if_pos z] at k; exact k
        | succ d ih =>
          intro i hi
          have e := h'.1.1
          have nx := ih (i + 1) (by omega)
          have ce : cnt (fun t => decide ((twZ A.1).1 t = t)) (i + 1) = cnt (fun t => decide ((twZ A.1).1 t = t)) i + (if decide ((twZ A.1).1 i = i) then 1 else 0) := rfl
          rw [ce] at nx
          refine rX12_twin_32 fun _ => ⟨by omega, fun z => by omega, fun _ => ⟨by omega, by omega, ?_⟩⟩
          rw [show σ' 91 ((i : Int).toNat) = _ from (tw i (by omega)).1]
          refine ⟨fun y => rX12_twin_59 fun _ => ?_, fun y => rX12_twin_59 fun _ => ?_⟩
          · rw [if_neg (by simp; omega)] at nx; exact nx
          · rw [if_pos (by simp; omega)] at nx; exact nx
      exact loop A.1.1 0 (by omega)
    · rw [if_neg q3] at K
      rw [if_neg (show ¬ (0 ≤ w ∧ w ≤ 2) by omega)]
      exact ⟨by decide, fun z => absurd rfl z, fun _ => K σ (fun _ _ _ => rfl) h⟩
  · rw [if_neg q] at K ⊢
    exact ⟨by decide, fun z => absurd rfl z, fun _ => K σ (fun _ _ _ => rfl) h⟩
