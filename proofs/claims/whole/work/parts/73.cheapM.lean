/-! cheapest, sets of the reference -/
theorem srch_in {S : Sc} {P : Nat → Int} {wd x : Nat} (hP : okP P) (h8 : S.1 ≤ 8) (hx : x < 2 ^ S.1) : ((srchW S P wd).2.2.1 x).1 < 1000 ↔ x ∈ (srchW S P wd).1 := by
  obtain ⟨h, hn⟩ := srch_end (wd := wd) hP h8
  have is := nxtW_is (srchW S P wd) (2 ^ S.1)
  rw [hn] at is
  constructor
  · intro hc
    exact Decidable.byContradiction fun q => by have := is x hx q; omega
  · exact h.fin x
theorem srch_M {S : Sc} {P : Nat → Int} {wd x : Nat} {σ : Sg} (hP : okP P) (h8 : S.1 ≤ 8) (hs : srM (srchW S P wd) σ) (hx : x < 2 ^ S.1) : (x ∈ (srchW S P wd).1 → σ 84 x = ((srchW S P wd).2.2.1 x).1 ∧ 1 ≤ ((srchW S P wd).2.2.1 x).1 ∧ ((srchW S P wd).2.2.1 x).1 < 1000 ∧ σ 88 x = ((srchW S P wd).2.2.2 x : Int)) ∧ (x ∉ (srchW S P wd).1 → σ 84 x = -1) := by
  have p8 := pow_lt8 h8
  have q := hs x (by omega)
  have i := srch_in (wd := wd) hP h8 hx
  constructor
  · intro hm
    have c := i.mpr hm
    have e := q.1
    rw [if_pos c] at e
    exact ⟨e, ((srch_end hP h8).1.way x).2.1, c, (q.2.2.2 hm).2⟩
  · intro hm
    have e := q.1
    rw [if_neg fun c => hm (i.mp c)] at e
    exact e
theorem m_codeAt {X : Cx} {σ : Sg} {Q : Int → Sg → Prop} {S : Sc} {F : AT} {x i : Nat} {v2 v3 : Int} (h8 : S.1 ≤ 8) (h : AI S F) (hs : srM F σ) (hx : x ∈ F.1) (hi : i < F.2.2.2 x) (k : Q (codeN F i x i) σ) : GX12_cheapest_86 X x v2 v3 x i σ Q := by
  have p8 := pow_lt8 h8
  have hok := h.okZ h8
  have l1000 : ∀ y, y ∈ F.1 → F.2.2.2 y < 1000 := fun y hy => by have := (h.lng y hy).2.1; have := h.fin y hy; omega
  have cell : ∀ y, y ∈ F.1 → y < 256 ∧ σ 85 y = ((F.2.2.1 y).2.1 : Int) ∧ σ 86 y = ((F.2.2.1 y).2.2.1 : Int) ∧ σ 87 y = ((F.2.2.1 y).2.2.2 : Int) ∧ σ 88 y = (F.2.2.2 y : Int) := fun y hy => by
    have a := h.lt y hy
    have q := hs y (by omega)
    have b := q.2.1 (h.fin y hy)
    exact ⟨by omega, b.1, b.2.1, b.2.2, (q.2.2.2 hy).2⟩
  have loop : ∀ f at' l : Nat, l ≤ f → f < 1000 → at' ∈ F.1 → l < F.2.2.2 at' → Q (codeN F f at' l) σ → GX12_cheapest_86 X x v2 v3 at' l σ Q := by
    intro f
    induction f with
    | zero =>
      intro y l hl hf hy hly k1
      have hl : l = 0 := by omega
      subst hl
      obtain ⟨y256, c85, -⟩ := cell y hy
      refine rX12_cheapest_86 fun _ => ⟨by omega, fun _ => ⟨by omega, ?_⟩, fun z => by omega⟩
      rw [show ((y : Int).toNat) = y from rfl, c85]
      exact k1
    | succ f ih =>
      intro y l hl hf hy hly k1
      obtain ⟨y256, c85, c86, c87, -⟩ := cell y hy
      refine rX12_cheapest_86 fun _ => ⟨by omega, fun z => ⟨by omega, ?_⟩, fun z => ⟨by omega, ?_⟩⟩
      · rw [show ((y : Int).toNat) = y from rfl, c85]
        have hl : l = 0 := by omega
        subst hl
        rw [codeN_0] at k1
        exact k1
      · rw [show ((y : Int).toNat) = y from rfl, c86]
        have nx := code_next h hy hly (by omega)
        obtain ⟨a256, -, -, -, c88⟩ := cell _ nx.1
        have e : codeN F (f + 1) y l = (if l ≤ F.2.2.2 (F.2.2.1 y).2.2.1 then codeN F f (F.2.2.1 y).2.2.1 (l - 1) else codeN F f (F.2.2.1 y).2.2.2 (l - 1 - F.2.2.2 (F.2.2.1 y).2.2.1)) := by
          show (if l = 0 then _ else _) = _
          rw [if_neg (by omega)]
        rw [e] at k1
        have la := l1000 _ nx.1
        rw [show (((F.2.2.1 y).2.2.1 : Int).toNat) = (F.2.2.1 y).2.2.1 from rfl, c88]
        refine ⟨by omega, by omega, fun q => rX12_cheapest_113 fun _ => ⟨by decide, fun _ => ⟨by omega, ?_⟩, fun q2 => absurd rfl q2⟩, fun q => rX12_cheapest_113 fun _ => ⟨by decide, fun q2 => absurd q2 (by decide), fun _ => ?_⟩⟩
        · rw [show ((y : Int).toNat) = y from rfl, c86, show (((F.2.2.1 y).2.2.1 : Int).toNat) = (F.2.2.1 y).2.2.1 from rfl, c88]
          rw [if_neg (by omega)] at k1
          have n2 := nx.2.2 (by omega)
          have := ih _ _ (by omega) (by omega) n2.1 n2.2 k1
          refine ⟨by omega, rX12_cheapest_144 fun _ => ⟨by decide, fun _ => ⟨by omega, ?_⟩, fun q2 => absurd rfl q2⟩⟩
          rw [show ((y : Int).toNat) = y from rfl, c87, show (l : Int) - 1 - ((F.2.2.2 (F.2.2.1 y).2.2.1 : Nat) : Int) = ((l - 1 - F.2.2.2 (F.2.2.1 y).2.2.1 : Nat) : Int) by omega]
          exact rX12_cheapest_168 fun _ => this
        · rw [if_pos (by omega)] at k1
          have := ih _ _ (by omega) (by omega) nx.1 (nx.2.1 (by omega)) k1
          refine rX12_cheapest_144 fun _ => ⟨by decide, fun q2 => absurd q2 (by decide), fun _ => ⟨by omega, ?_⟩⟩
          rw [show ((y : Int).toNat) = y from rfl, c86, show (l : Int) - 1 = ((l - 1 : Nat) : Int) by omega]
          exact rX12_cheapest_168 fun _ => this
  have := l1000 x hx
  exact loop i x i (Nat.le_refl _) (by omega) hx hi k
theorem frZ_scr {σ σ' : Sg} (h : frZ σ σ') : ∀ c k, ¬ scrM c k → σ' c k = σ c k := fun c k z => h c k (by unfold scrM at z; omega)
theorem m_cheapest {X : Cx} {A : AS} {σ : Sg} {s w i : Int} (h : InvM A σ) (hA : okA A) (hs : inI s) (hw : inI w) (hi : inI i) : doesM (opCheap A s w i) σ (KX12_cheapest X s w i σ) := by
  intro Q K
  have h8 := hA.1.1
  have p8 := pow_lt8 h8
  have p0 := Nat.two_pow_pos A.1.1
  have fa : ((F_all A.1 : Nat) : Int) + 1 = ((2 ^ A.1.1 : Nat) : Int) := by unfold F_all; omega
  have hN : inI ((F_all A.1 : Nat) : Int) := by
    generalize 2 ^ A.1.1 = N at *
    omega
  unfold opCheap at K
  refine eX12_cheapest (rX12_cheapest_0 fun _ => m_every h.1 fun _ => m_in hs (by decide) hN fun _ => ?_)
  have ce : (if 0 ≤ s ∧ s ≤ ((F_all A.1 : Nat) : Int) then (1 : Int) else 0) = (if 0 ≤ s ∧ s < ((2 ^ A.1.1 : Nat) : Int) then 1 else 0) := by
    rw [← fa]
    by_cases c : 0 ≤ s ∧ s < ((F_all A.1 : Nat) : Int) + 1
    · rw [if_pos c, if_pos ⟨c.1, by omega⟩]
    · rw [if_neg c, if_neg (fun y => c ⟨y.1, by omega⟩)]
  rw [ce]
  by_cases c1 : 0 ≤ s ∧ s < ((2 ^ A.1.1 : Nat) : Int)
  · rw [if_pos c1] at K
    rw [if_pos c1]
    refine ⟨by decide, fun z => absurd z (by decide), fun _ => m_areWords hw fun _ => ?_⟩
    by_cases c2 : 0 ≤ w ∧ w < 32768
    · rw [if_pos c2] at K
      rw [if_pos c2]
      refine ⟨by decide, fun z => absurd z (by decide), fun _ => ⟨by omega, fun c3 => ?_, fun c3 => ?_⟩⟩
      · rw [if_pos (by omega)] at K
        obtain ⟨wd, rfl⟩ := Int.eq_ofNat_of_zero_le c2.1
        obtain ⟨x, rfl⟩ := Int.eq_ofNat_of_zero_le c1.1
        rw [show ((wd : Int).toNat) = wd from rfl, show ((x : Int).toNat) = x from rfl] at K
        have hx : x < 2 ^ A.1.1 := by exact_mod_cast c1.2
        have hAI := (srch_end (wd := wd) hA.2.1 h8).1
        refine m_search h.1 hA.1 hA.2.1 h.2.2.1 (by omega) fun σ1 f1 s1 => fun _ => ?_
        have t := srch_M (wd := wd) hA.2.1 h8 s1 hx
        have l1000 : x ∈ (srchW A.1 A.2.1 wd).1 → (srchW A.1 A.2.1 wd).2.2.2 x < 1000 ∧ 1 ≤ (srchW A.1 A.2.1 wd).2.2.2 x := fun hy => by have := hAI.lng x hy; have := hAI.fin x hy; omega
        generalize srchW A.1 A.2.1 wd = F at *
        have KK := K σ1 (fun c k z => f1 c k (by omega)) (h.frameS (frZ_scr f1))
        rw [show ((x : Int).toNat) = x from rfl]
        by_cases c4 : x ∈ F.1
        · have tt := t.1 c4
          have ll := l1000 c4
          rw [if_pos c4] at KK
          rw [tt.1, tt.2.2.2]
          refine ⟨by omega, fun z => by omega, fun _ => ⟨by omega, by omega, fun y => ⟨by omega, fun y2 => ?_, fun y2 => ⟨by omega, fun y3 => ⟨by omega, ?_⟩, fun y3 => ⟨by omega, ?_⟩⟩⟩, fun y => ?_⟩⟩
          · rw [if_neg (by omega), if_neg (by omega), if_pos y] at KK
            obtain ⟨j, rfl⟩ := Int.eq_ofNat_of_zero_le y2
            exact m_codeAt h8 hAI s1 c4 (by exact_mod_cast y) KK
          · rw [if_pos (by omega)] at KK
            exact KK
          · rw [if_neg (by omega), if_pos y3] at KK
            exact KK
          · rw [if_neg (by omega), if_neg (by omega), if_neg (by omega)] at KK
            exact KK
        · rw [if_neg c4] at KK
          rw [t.2 c4]
          exact ⟨by omega, fun _ => KK, fun z => absurd rfl z⟩
      · rw [if_neg (by omega)] at K
        exact K σ (fun _ _ _ => rfl) h
    · rw [if_neg c2] at K
      rw [if_neg c2]
      exact ⟨by decide, fun _ => K σ (fun _ _ _ => rfl) h, fun z => absurd rfl z⟩
  · rw [if_neg c1] at K
    rw [if_neg c1]
    exact ⟨by decide, fun _ => K σ (fun _ _ _ => rfl) h, fun z => absurd rfl z⟩
theorem cnt_not (q : Nat → Bool) : ∀ n, cnt q n + cnt (fun x => !q x) n = n
  | 0 => rfl
  | n + 1 => by
    have := cnt_not q n
    show cnt q n + (if q n then 1 else 0) + (cnt (fun x => !q x) n + (if !q n then 1 else 0)) = n + 1
    cases q n <;> simp <;> omega
theorem m_sets {X : Cx} {A : AS} {σ : Sg} {w : Int} (h : InvM A σ) (hA : okA A) (hw : inI w) : doesM (opSets A w) σ (KX12_sets X w σ) := by
  intro Q K
  have h8 := hA.1.1
  have p8 := pow_lt8 h8
  have p0 := Nat.two_pow_pos A.1.1
  have fa : ((F_all A.1 : Nat) : Int) + 1 = ((2 ^ A.1.1 : Nat) : Int) := by unfold F_all; omega
  unfold opSets at K
  refine eX12_sets (rX12_sets_0 fun _ => m_areWords hw fun _ => ?_)
  by_cases c2 : 0 ≤ w ∧ w < 32768
  · rw [if_pos c2] at K
    rw [if_pos c2]
    obtain ⟨wd, rfl⟩ := Int.eq_ofNat_of_zero_le c2.1
    rw [show ((wd : Int).toNat) = wd from rfl] at K
    have hAI := (srch_end (wd := wd) hA.2.1 h8).1
    refine ⟨by decide, fun _ => m_search h.1 hA.1 hA.2.1 h.2.2.1 (by omega) fun σ1 f1 s1 => fun _ => ?_, fun z => absurd z (by decide)⟩
    have KK := K σ1 (fun c k z => f1 c k (by omega)) (h.frameS (frZ_scr f1))
    have hM1 : atM A.1 σ1 := h.1.frame fun c k z => f1 c k (by omega)
    have e : (srchW A.1 A.2.1 wd).1.length = cnt (fun x => decide (x ∈ (srchW A.1 A.2.1 wd).1)) (2 ^ A.1.1) := by
      have a := hAI.len
      have b := cnt_not (fun x => decide (x ∈ (srchW A.1 A.2.1 wd).1)) (2 ^ A.1.1)
      have c : cnt (fun x => !decide (x ∈ (srchW A.1 A.2.1 wd).1)) (2 ^ A.1.1) = cnt (fun x => decide (x ∉ (srchW A.1 A.2.1 wd).1)) (2 ^ A.1.1) := cnt_congr _ fun t _ => by simp
      omega
    rw [e] at KK
    have tM := fun x hx => srch_M (x := x) (wd := wd) hA.2.1 h8 s1 hx
    generalize srchW A.1 A.2.1 wd = F at *
    generalize 2 ^ A.1.1 = N at *
    have loop : ∀ d k : Nat, k + d = N → GX12_sets_19 X wd (cnt (fun x => decide (x ∈ F.1)) k : Nat) k σ1 Q := by
      intro d
      induction d with
      | zero =>
        intro k hk
        have hk : k = N := by omega
        subst hk
        exact rX12_sets_19 fun _ => m_every hM1 fun _ => ⟨by omega, by omega, fun _ => KK, fun z => by omega⟩
      | succ d ih =>
        intro k hk
        have nx := ih (k + 1) (by omega)
        have ce : cnt (fun x => decide (x ∈ F.1)) (k + 1) = cnt (fun x => decide (x ∈ F.1)) k + (if decide (k ∈ F.1) = true then 1 else 0) := rfl
        rw [ce] at nx
        have t := tM k (by omega)
        refine rX12_sets_19 fun _ => m_every hM1 fun _ => ⟨by omega, by omega, fun z => by omega, fun _ => ⟨by omega, ?_⟩⟩
        rw [show ((k : Int).toNat) = k from rfl]
        by_cases c : k ∈ F.1
        · have tt := t.1 c
          rw [if_pos (by simpa using c)] at nx
          rw [tt.1]
          exact ⟨fun _ => rX12_sets_43 fun _ => nx, fun z => by omega⟩
        · rw [if_neg (by simpa using c)] at nx
          rw [t.2 c]
          refine ⟨fun z => absurd rfl z, fun _ => rX12_sets_43 fun _ => ?_⟩
          exact nx
    exact loop N 0 (by omega)
  · rw [if_neg c2] at K
    rw [if_neg c2]
    exact ⟨by decide, fun z => absurd rfl z, fun _ => K σ (fun _ _ _ => rfl) h⟩
