/-! what is kept of tables; cheapest, sets -/
def wrthF (F : AT) : Nat → Int
  | 0 => 0
  | n + 1 => wrthF F n + (if 2 ^ n ∈ F.1 then (F.2.2.1 (2 ^ n)).1 else 50)
/-- a mark more -/
def mrkS (S : Sc) (t m : Nat) : Sc := setS S 3 t (((S.2 3 t).toNat ||| 2 ^ m : Nat) : Int)
abbrev BT : Type := Int × Int
/-- best mark, least worth: -1 if there is none yet -/
def bstS (S : Sc) (P : Nat → Int) (wd : Nat) (B : BT) (t m : Nat) : BT :=
  if (S.2 3 t).toNat.testBit m then B else (if B.2 = -1 ∨ wrthF (srchW (mrkS S t m) P wd) S.1 < B.2 then (((4 * t + m : Nat) : Int), wrthF (srchW (mrkS S t m) P wd) S.1) else B)
def bstT (S : Sc) (P : Nat → Int) (wd : Nat) (B : BT) (t : Nat) : BT := bstS S P wd (bstS S P wd (bstS S P wd B t 0) t 1) t 2
def bstN (S : Sc) (P : Nat → Int) (wd : Nat) : Nat → BT
  | 0 => (-1, -1)
  | n + 1 => bstT S P wd (bstN S P wd n) n
def CK1 (S : Sc) (P : Nat → Int) (σ : Sg) : Prop := ∃ wd, wd < 32768 ∧ σ 42 7 = ((wd : Nat) : Int) ∧ tabC S 0 42 (srchW S P wd) σ
def CK2 (S : Sc) (P : Nat → Int) (σ : Sg) : Prop := ∃ wd, wd < 32768 ∧ σ 49 1 = ((wd : Nat) : Int) ∧ σ 49 3 = (bstN S P wd S.1).2 ∧ σ 49 4 = (bstN S P wd S.1).1
def CKK : CKt := (CK1, CK2)
theorem tabC.frame {S : Sc} {th : Int} {c0 : Nat} {F : AT} {σ σ' : Sg} (h : tabC S th c0 F σ) (hf : ∀ c k, (c0 + 1 ≤ c ∧ c ≤ c0 + 6) ∨ (c = c0 ∧ k = 6) → σ' c k = σ c k) : tabC S th c0 F σ' := by
  refine ⟨fun x hx hw => ?_, fun z => by rw [hf c0 6 (Or.inr ⟨rfl, rfl⟩)]; exact h.2 z⟩
  rw [hf _ x (Or.inl (by omega : c0 + 1 ≤ c0 + 2 ∧ c0 + 2 ≤ c0 + 6)), hf _ x (Or.inl (by omega : c0 + 1 ≤ c0 + 4 ∧ c0 + 4 ≤ c0 + 6)), hf _ x (Or.inl (by omega : c0 + 1 ≤ c0 + 1 ∧ c0 + 1 ≤ c0 + 6)), hf _ x (Or.inl (by omega : c0 + 1 ≤ c0 + 3 ∧ c0 + 3 ≤ c0 + 6))]
  exact h.1 x hx hw
theorem okCKK : okCK CKK := fun S P σ σ' hf => by
  refine ⟨fun h => ?_, fun h => ?_⟩
  · obtain ⟨wd, h1, h2, h3⟩ := (show CK1 S P σ from h)
    exact ⟨wd, h1, by rw [hf 42 7 (by decide) (by decide)]; exact h2, h3.frame fun c k hc => hf c k (by omega) (by omega)⟩
  · obtain ⟨wd, h1, h2, h3, h4⟩ := (show CK2 S P σ from h)
    exact ⟨wd, h1, by rw [hf 49 1 (by decide) (by decide)]; exact h2, by rw [hf 49 3 (by decide) (by decide)]; exact h3, by rw [hf 49 4 (by decide) (by decide)]; exact h4⟩
theorem InvC.cache {CK : CKt} {A : AS} {m : Nat} {σ σ' : Sg} (hK : A.2.2.2.1.length ≤ 8) (h : InvC CK A m σ) (hf : ∀ c k, ¬ (42 ≤ c ∧ c ≤ 56) → σ' c k = σ c k) (hc : cacheOK CK A.1 A.2.1 σ') : InvC CK A m σ' := by
  obtain ⟨h1, h2, h3, h4, h5, h6, h7, h8, h9⟩ := h
  exact ⟨h1.frame fun c k hc => hf c k (by omega), fun t a c => by rw [hf 6 t (by decide), hf 9 t (by decide), hf 10 t (by decide)]; exact h2 t a c, by rw [hf 1 2 (by decide)]; exact h3, fun w hw => by rw [hf 11 w (by decide)]; exact h4 w hw, ⟨by rw [hf 12 2 (by decide)]; exact h5.1, h5.2.1, fun i hi => by rw [hf 13 i (by decide)]; exact h5.2.2 i hi⟩, ⟨by rw [hf 0 10 (by decide)]; exact h6.1, fun k hk => (h6.2 k hk).frame fun c j hc => hf c j (by omega)⟩, ⟨by rw [hf 67 1 (by decide)]; exact h7.1, fun i hi => by rw [hf 68 i (by decide)]; exact h7.2 i hi⟩, by rw [hf 0 11 (by decide)]; exact h8, hc⟩
theorem s_waysWith {X : Cx} {A : AS} {m : Nat} {σ : Sg} {Q : Int → Sg → Prop} {wd : Nat} (h : InvC CKK A m σ) (hA : okA A) (hwd : wd < 32768) (K : ∀ σ', (∀ c k, ¬ (42 ≤ c ∧ c ≤ 48) → σ' c k = σ c k) → InvC CKK A m σ' → tabC A.1 0 42 (srchW A.1 A.2.1 wd) σ' → Q 42 σ') : KX11_waysWith X wd σ Q := by
  have hc := h.2.2.2.2.2.2.2.2
  have fill : GX11_waysWith_25 X wd σ Q := by
    refine rX11_waysWith_25 fun _ => s_fill9 (Or.inl rfl) h.1 hA.1 hA.2.1 h.2.2.2.1 hwd (Or.inl rfl) fun σ1 f1 e7 t1 => fun _ => ?_
    have e011 : σ1 0 11 = σ 0 11 := f1 0 11 (by decide) (by decide)
    rw [e011]
    have fr : ∀ c k, ¬ (42 ≤ c ∧ c ≤ 48) → up2 σ1 42 8 (σ 0 11) c k = σ c k := fun c k z => by rw [up2_nc _ _ (by omega)]; exact f1 c k (by omega) (by omega)
    have t2 : tabC A.1 0 42 (srchW A.1 A.2.1 wd) (up2 σ1 42 8 (σ 0 11)) := t1.frame fun c k hk => up2_a _ _ (by omega)
    have e8 : (up2 σ1 42 8 (σ 0 11)) 42 8 = σ 0 11 := up2_s _ _ _ _
    have e7' : (up2 σ1 42 8 (σ 0 11)) 42 7 = (wd : Int) := by rw [up2_nk _ _ (by decide)]; exact e7
    generalize up2 σ1 42 8 (σ 0 11) = σ2 at *
    refine K σ2 fr (h.cache hA.2.2.1.1 (fun c k z => fr c k (by omega)) ?_) t2
    have e49 : ∀ k, σ2 49 k = σ 49 k := fun k => fr 49 k (by decide)
    unfold cacheOK
    rw [e8, e49, fr 0 11 (by decide)]
    refine ⟨Int.le_refl _, hc.2.1, fun _ => ⟨wd, hwd, e7', t2⟩, fun z => ?_⟩
    obtain ⟨wd', h1, h2, h3, h4⟩ := (show CK2 _ _ σ from hc.2.2.2 z)
    exact ⟨wd', h1, by rw [e49]; exact h2, by rw [e49]; exact h3, by rw [e49]; exact h4⟩
  refine eX11_waysWith (rX11_waysWith_0 fun _ => ⟨fun _ => fill, fun z => ⟨by omega, fun y => ?_, fun _ => fill⟩⟩)
  obtain ⟨wd', h1, h2, h3⟩ := (show CK1 _ _ σ from hc.2.2.1 z)
  have e : wd' = wd := by omega
  subst e
  exact K σ (fun _ _ _ => rfl) h h3
theorem s_isReached {X : Cx} {σ : Sg} {Q : Int → Sg → Prop} {c0 x : Nat} (hw : isW c0) (hx : x < 256) (k : Q (if σ (c0 + 4) x = -1 then 0 else 1) σ) : KX9_isReached X c0 x σ Q := by
  refine eX9_isReached (rX9_isReached_0 hw.way fun _ => s_isWithin (by omega) (by decide) fun _ => ?_)
  rw [if_pos (by omega)]
  refine ⟨by decide, fun z => absurd z (by decide), fun _ => ⟨by omega, fun z => ?_, fun z => ?_⟩⟩
  · rw [if_pos (show σ (c0 + 4) x = -1 from z)] at k; exact k
  · rw [if_neg (show ¬ σ (c0 + 4) x = -1 from z)] at k; exact k
/-- the i-th word of a set's saying -/
def codeN (F : AT) : Nat → Nat → Nat → Int
  | 0, x, _ => ((F.2.2.1 x).2.1 : Int)
  | f + 1, x, l => if l = 0 then ((F.2.2.1 x).2.1 : Int) else if l ≤ F.2.2.2 (F.2.2.1 x).2.2.1 then codeN F f (F.2.2.1 x).2.2.1 (l - 1) else codeN F f (F.2.2.1 x).2.2.2 (l - 1 - F.2.2.2 (F.2.2.1 x).2.2.1)
theorem codeN_0 {F : AT} {f x : Nat} : codeN F f x 0 = ((F.2.2.1 x).2.1 : Int) := by
  cases f with
  | zero => rfl
  | succ f => show (if 0 = 0 then _ else _) = _; rw [if_pos rfl]
/-- where the next word lies -/
theorem code_next {S : Sc} {F : AT} (h : AI S F) {x l : Nat} (hx : x ∈ F.1) (hl : l < F.2.2.2 x) (h0 : 0 < l) : (F.2.2.1 x).2.2.1 ∈ F.1 ∧ (l ≤ F.2.2.2 (F.2.2.1 x).2.2.1 → l - 1 < F.2.2.2 (F.2.2.1 x).2.2.1) ∧ (¬ l ≤ F.2.2.2 (F.2.2.1 x).2.2.1 → (F.2.2.1 x).2.2.2 ∈ F.1 ∧ l - 1 - F.2.2.2 (F.2.2.1 x).2.2.1 < F.2.2.2 (F.2.2.1 x).2.2.2) := by
  have lg := (h.lng x hx).2.2
  have hs := (h.way x).1
  unfold lenW at lg
  rcases prt_3 ((F.2.2.1 x).2.1 / 8) with p | p | p
  · rw [if_neg (by omega), if_neg (by omega)] at lg; omega
  · rw [if_pos (by omega), if_neg (by omega)] at lg
    exact ⟨(h.mem _).mp (hs.2.2.1 p).1, fun _ => by omega, fun z => by omega⟩
  · rw [if_pos (by omega), if_pos (by omega)] at lg
    exact ⟨(h.mem _).mp (hs.2.2.2 p).1, fun _ => by omega, fun z => ⟨(h.mem _).mp (hs.2.2.2 p).2, by omega⟩⟩
theorem s_codeAt {X : Cx} {σ : Sg} {Q : Int → Sg → Prop} {S : Sc} {F : AT} {x i : Nat} (h8 : S.1 ≤ 8) (h : AI S F) (ht : tabC S 0 42 F σ) (hx : x ∈ F.1) (hi : i < F.2.2.2 x) (k : Q (codeN F i x i) σ) : KX9_codeAt X 42 x i σ Q := by
  have p8 := pow_lt8 h8
  have hok := h.okZ h8
  have l1000 : ∀ y, y ∈ F.1 → F.2.2.2 y < 1000 := fun y hy => by have := (h.lng y hy).2.1; have := h.fin y hy; omega
  have cell : ∀ y, y ∈ F.1 → y < 256 ∧ σ 44 y = (F.2.2.2 y : Int) ∧ σ 45 y = wyI (F.2.2.1 y) := fun y hy => by
    have a := h.lt y hy
    have := ((ht.1 y a (Or.inl rfl)).1 hy).2.2
    exact ⟨by omega, this.1, this.2⟩
  refine eX9_codeAt (rX9_codeAt_0 isWay_42 fun _ => ?_)
  rw [zand255 (cell x hx).1]
  have loop : ∀ f at' l step : Nat, l ≤ f → at' ∈ F.1 → l < F.2.2.2 at' → step + f < 1000 → Q (codeN F f at' l) σ → GX9_codeAt_12 X 42 x i at' l step σ Q := by
    intro f
    induction f with
    | zero =>
      intro y l step hl hy hly hst k1
      have hl : l = 0 := by omega
      subst hl
      obtain ⟨y256, -, c45⟩ := cell y hy
      have b := shp_256 hok (h.way y).1
      have wp := wy_parts (h.way y).1.1 b.1 b.2
      refine rX9_codeAt_12 isWay_42 fun _ => ⟨by omega, fun z => by omega, fun _ => ⟨by omega, fun _ => ⟨by omega, ?_⟩, fun z => by omega⟩⟩
      rw [show ((y : Int).toNat) = y from rfl, show σ (42 + 3) y = _ from c45, wp.1]
      exact k1
    | succ f ih =>
      intro y l step hl hy hly hst k1
      obtain ⟨y256, -, c45⟩ := cell y hy
      have b := shp_256 hok (h.way y).1
      have wp := wy_parts (h.way y).1.1 b.1 b.2
      refine rX9_codeAt_12 isWay_42 fun _ => ⟨by omega, fun z => by omega, fun _ => ⟨by omega, fun z => ⟨by omega, ?_⟩, fun z => ⟨by omega, ?_⟩⟩⟩
      · rw [show ((y : Int).toNat) = y from rfl, show σ (42 + 3) y = _ from c45, wp.1]
        have hl : l = 0 := by omega
        subst hl
        rw [codeN_0] at k1
        exact k1
      · rw [show ((y : Int).toNat) = y from rfl, show σ (42 + 3) y = _ from c45, wp.2.1, wp.2.2.1]
        have nx := code_next h hy hly (by omega)
        obtain ⟨a256, c44, -⟩ := cell _ nx.1
        have e : codeN F (f + 1) y l = (if l ≤ F.2.2.2 (F.2.2.1 y).2.2.1 then codeN F f (F.2.2.1 y).2.2.1 (l - 1) else codeN F f (F.2.2.1 y).2.2.2 (l - 1 - F.2.2.2 (F.2.2.1 y).2.2.1)) := by
          show (if l = 0 then _ else _) = _
          rw [if_neg (by omega)]
        rw [e] at k1
        have la := l1000 _ nx.1
        rw [show (((F.2.2.1 y).2.2.1 : Int).toNat) = (F.2.2.1 y).2.2.1 from rfl, show σ (42 + 2) _ = _ from c44]
        refine ⟨by omega, by omega, fun q => ⟨by omega, by omega, rX9_codeAt_84 isWay_42 fun _ => ?_⟩, fun q => rX9_codeAt_84 isWay_42 fun _ => ?_⟩
        · rw [if_neg (by omega)] at k1
          have n2 := nx.2.2 (by omega)
          have := ih _ _ (step + 1) (by omega) n2.1 n2.2 (by omega) k1
          rw [show (l : Int) + (-1) - ((F.2.2.2 (F.2.2.1 y).2.2.1 : Nat) : Int) = ((l - 1 - F.2.2.2 (F.2.2.1 y).2.2.1 : Nat) : Int) by omega]
          exact this
        · rw [if_pos (by omega)] at k1
          have := ih _ _ (step + 1) (by omega) nx.1 (nx.2.1 (by omega)) (by omega) k1
          rw [show (l : Int) + (-1) = ((l - 1 : Nat) : Int) by omega]
          exact this
  have := l1000 x hx
  exact loop i x i 0 (Nat.le_refl _) hx hi (by omega) k
def wdOK (v : Int) : Prop := 0 ≤ v ∧ v < 32768
def opCheap (A : AS) (s w i : Int) : Int × AS := (if 0 ≤ s ∧ s < ((2 ^ A.1.1 : Nat) : Int) then (if 0 ≤ w ∧ w < 32768 then (if -2 ≤ i then (if s.toNat ∈ (srchW A.1 A.2.1 w.toNat).1 then (if i = -2 then ((srchW A.1 A.2.1 w.toNat).2.2.2 s.toNat : Int) else if i = -1 then ((srchW A.1 A.2.1 w.toNat).2.2.1 s.toNat).1 else if i < ((srchW A.1 A.2.1 w.toNat).2.2.2 s.toNat : Int) then codeN (srchW A.1 A.2.1 w.toNat) i.toNat s.toNat i.toNat else -1) else -1) else -3) else -3) else -3, A)
theorem c_cheapest {X : Cx} {A : AS} {m : Nat} {σ : Sg} {s w i : Int} (h : InvC CKK A m σ) (hA : okA A) (hs : inI s) (hw : inI w) (hi : inI i) : doesC CKK m (opCheap A s w i) σ (KX11_cheapest X s w i σ) := by
  intro Q K
  have h8 := hA.1.1
  have p8 := pow_lt8 h8
  have p0 := Nat.two_pow_pos A.1.1
  have fa : ((F_all A.1 : Nat) : Int) + 1 = ((2 ^ A.1.1 : Nat) : Int) := by unfold F_all; omega
  unfold opCheap at K
  refine eX11_cheapest (rX11_cheapest_0 fun _ => s_all h.1 fun _ => ?_)
  rw [fa]
  have hN : inI ((2 ^ A.1.1 : Nat) : Int) := by
    generalize 2 ^ A.1.1 = N at *
    omega
  refine s_isWithin hs hN fun _ => ?_
  by_cases c1 : 0 ≤ s ∧ s < ((2 ^ A.1.1 : Nat) : Int)
  · rw [if_pos c1] at K
    rw [if_pos c1]
    refine ⟨by decide, fun z => absurd z (by decide), fun _ => s_areWords hw fun _ => ?_⟩
    by_cases c2 : 0 ≤ w ∧ w < 32768
    · rw [if_pos c2] at K
      rw [if_pos c2]
      refine ⟨by decide, fun z => absurd z (by decide), fun _ => ⟨by omega, fun c3 => ?_, fun c3 => ?_⟩⟩
      · rw [if_pos (by omega)] at K
        obtain ⟨wd, rfl⟩ := Int.eq_ofNat_of_zero_le c2.1
        obtain ⟨x, rfl⟩ := Int.eq_ofNat_of_zero_le c1.1
        have K := K
        rw [show ((wd : Int).toNat) = wd from rfl, show ((x : Int).toNat) = x from rfl] at K
        have hx : x < 2 ^ A.1.1 := by exact_mod_cast c1.2
        have hAI := (srch_end (wd := wd) hA.2.1 h8).1
        refine s_waysWith h hA (by omega) fun σ1 f1 i1 t1 => fun _ => ⟨rfl, s_isReached (Or.inl rfl) (by omega) fun _ => ?_⟩
        have t := t1.1 x hx (Or.inl rfl)
        generalize srchW A.1 A.2.1 wd = F at *
        have KK := K σ1 (fun c k z => f1 c k (by omega)) i1.more
        by_cases c4 : x ∈ F.1
        · have tt := t.1 c4
          rw [if_pos c4] at KK
          rw [if_neg tt.1]
          refine ⟨by decide, fun _ => ⟨by omega, fun z => ⟨by omega, ?_⟩, fun z => ⟨by omega, ?_⟩, fun z => ⟨by omega, by omega, ?_⟩⟩, fun z => absurd z (by decide)⟩
          · rw [if_pos z] at KK
            rw [show ((x : Int).toNat) = x from rfl, show σ1 44 x = _ from tt.2.2.1]
            exact KK
          · rw [if_neg (by omega), if_pos z] at KK
            rw [show ((x : Int).toNat) = x from rfl, show σ1 43 x = _ from tt.2.1]
            exact KK
          · rw [if_neg z.1, if_neg z.2] at KK
            rw [show ((x : Int).toNat) = x from rfl, show σ1 44 x = _ from tt.2.2.1]
            refine ⟨fun y => ?_, fun y => ?_⟩
            · rw [if_neg (by omega)] at KK
              exact KK
            · rw [if_pos y] at KK
              obtain ⟨j, rfl⟩ := Int.eq_ofNat_of_zero_le (show 0 ≤ i by omega)
              exact s_codeAt h8 hAI t1 c4 (by exact_mod_cast y) fun _ => KK
        · rw [if_neg c4] at KK
          rw [if_pos (t.2 c4)]
          exact ⟨by decide, fun z => absurd rfl z, fun _ => KK⟩
      · rw [if_neg (by omega)] at K
        exact K σ (fun _ _ _ => rfl) h.more
    · rw [if_neg c2] at K
      rw [if_neg c2]
      exact ⟨by decide, fun _ => K σ (fun _ _ _ => rfl) h.more, fun z => absurd rfl z⟩
  · rw [if_neg c1] at K
    rw [if_neg c1]
    exact ⟨by decide, fun _ => K σ (fun _ _ _ => rfl) h.more, fun z => absurd rfl z⟩
def opSets (A : AS) (w : Int) : Int × AS := (if 0 ≤ w ∧ w < 32768 then ((srchW A.1 A.2.1 w.toNat).1.length : Int) else -3, A)
theorem c_sets {X : Cx} {A : AS} {m : Nat} {σ : Sg} {w : Int} (h : InvC CKK A m σ) (hA : okA A) (hw : inI w) : doesC CKK m (opSets A w) σ (KX11_sets X w σ) := by
  intro Q K
  unfold opSets at K
  refine eX11_sets (rX11_sets_0 fun _ => s_areWords hw fun _ => ?_)
  by_cases c2 : 0 ≤ w ∧ w < 32768
  · rw [if_pos c2] at K
    rw [if_pos c2]
    obtain ⟨wd, rfl⟩ := Int.eq_ofNat_of_zero_le c2.1
    refine ⟨by decide, fun z => absurd z (by decide), fun _ => s_waysWith h hA (by omega) fun σ1 f1 i1 t1 => fun _ => ⟨rfl, ?_⟩⟩
    rw [t1.2 rfl]
    exact K σ1 (fun c k z => f1 c k (by omega)) i1.more
  · rw [if_neg c2] at K
    rw [if_neg c2]
    exact ⟨by decide, fun _ => K σ (fun _ _ _ => rfl) h.more, fun z => absurd rfl z⟩
