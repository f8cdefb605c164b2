/-! talk -/
def lastF (N : List Nat) : Nat → Int
  | 0 => -1
  | i + 1 => ((N.getD i 0 : Nat) : Int)
def othF (N : List Nat) : Nat → Int
  | 0 => -1
  | i + 1 => if ((N.getD i 0 : Nat) : Int) = lastF N i then othF N i else lastF N i
def cstT (F : AT) (t : Nat) : Int := if 2 ^ t ∈ F.1 then (F.2.2.1 (2 ^ t)).1 else -1
def pntT (F : AT) (N : List Nat) (i : Nat) : Int := if ((N.getD i 0 : Nat) : Int) = lastF N i then 1 else if ((N.getD i 0 : Nat) : Int) = othF N i ∧ (cstT F (N.getD i 0) = -1 ∨ 2 < cstT F (N.getD i 0)) then 2 else cstT F (N.getD i 0)
def tlkF (F : AT) (N : List Nat) : Nat → Nat → Int → Int
  | 0, _, s => s
  | d + 1, i, s => if pntT F N i = -1 then -1 else tlkF F N d (i + 1) (s + pntT F N i)
def opTalk (A : AS) (w : Int) : Int × AS := (if 0 ≤ w ∧ w < 32768 then tlkF (srchW A.1 A.2.1 w.toNat) A.2.2.2.2 A.2.2.2.2.length 0 0 else -3, A)
theorem cst_rng {S : Sc} {P : Nat → Int} {wd t : Nat} (hP : okP P) (h8 : S.1 ≤ 8) : cstT (srchW S P wd) t = -1 ∨ (1 ≤ cstT (srchW S P wd) t ∧ cstT (srchW S P wd) t < 1000) := by
  have h := (srch_end (wd := wd) hP h8).1
  unfold cstT
  split
  · rename_i c
    exact Or.inr ⟨(h.way _).2.1, h.fin _ c⟩
  · exact Or.inl rfl
theorem s_pointingAt {X : Cx} {σ : Sg} {Q : Int → Sg → Prop} {N : List Nat} {i : Nat} (h : talkC N σ) (h12 : N.length ≤ 12) (hN : ∀ t ∈ N, t < 8) (hi : i < N.length) (K : Q (if ((N.getD i 0 : Nat) : Int) = lastF N i then 1 else if ((N.getD i 0 : Nat) : Int) = othF N i then 2 else -1) σ) : KX6_pointingAt X i σ Q := by
  have lt8 : ∀ j, j < N.length → N.getD j 0 < 8 := fun j hj => hN _ (getD_in hj)
  cases i with
  | zero =>
    refine eX6_pointingAt (rX6_pointingAt_0 fun _ => ⟨by decide, fun _ => ?_, fun z => absurd z (by decide)⟩)
    rw [if_neg (show ¬ ((N.getD 0 0 : Nat) : Int) = lastF N 0 by show ¬ ((N.getD 0 0 : Nat) : Int) = -1; omega), if_neg (show ¬ ((N.getD 0 0 : Nat) : Int) = othF N 0 by show ¬ ((N.getD 0 0 : Nat) : Int) = -1; omega)] at K
    exact K
  | succ i =>
    have li : lastF N (i + 1) = ((N.getD i 0 : Nat) : Int) := rfl
    have scan : ∀ k, k ≤ i → lastF N (k + 1) = lastF N (i + 1) → othF N (i + 1) = othF N (k + 1) → ¬ ((N.getD (i + 1) 0 : Nat) : Int) = lastF N (i + 1) → GX6_pointingAt_38 X ((i + 1 : Nat) : Int) (lastF N (i + 1)) ((k : Int) - 1) σ Q := by
      intro k
      induction k with
      | zero =>
        intro hk hl ho hn
        rw [if_neg hn] at K
        have e : othF N (i + 1) = -1 := by
          rw [ho]
          show (if ((N.getD 0 0 : Nat) : Int) = -1 then (-1 : Int) else -1) = -1
          split <;> rfl
        rw [if_neg (by omega)] at K
        exact rX6_pointingAt_38 fun _ => ⟨by decide, fun _ => K, fun z => absurd z (by decide)⟩
      | succ k ih =>
        intro hk hl ho hn
        have lk := lt8 k (by omega)
        have ls := lt8 (i + 1) hi
        have lsi := lt8 i (by omega)
        have c1 := h.2 k (by omega)
        have c2 := h.2 (i + 1) hi
        have ev : ((k + 1 : Nat) : Int) - 1 = (k : Int) := by omega
        have eo : othF N (k + 1 + 1) = (if ((N.getD (k + 1) 0 : Nat) : Int) = lastF N (k + 1) then othF N (k + 1) else lastF N (k + 1)) := rfl
        have el : lastF N (k + 1 + 1) = ((N.getD (k + 1) 0 : Nat) : Int) := rfl
        have ek : lastF N (k + 1) = ((N.getD k 0 : Nat) : Int) := rfl
        rw [ev]
        refine rX6_pointingAt_38 fun _ => ⟨by omega, fun z => by omega, fun _ => ⟨by omega, by omega, ?_⟩⟩
        rw [show ((k : Int).toNat) = k from rfl, c1, show (((i + 1 : Nat) : Int).toNat) = i + 1 from rfl, c2]
        refine ⟨fun z => ?_, fun z => ⟨by omega, by omega, ?_⟩⟩
        · have := ih (by omega) (by rw [ek]; exact z) (by rw [ho, eo, if_pos (by omega)]) hn
          rw [show (k : Int) + (-1) = (k : Int) - 1 by omega]
          exact this
        · have e3 : othF N (i + 1) = ((N.getD k 0 : Nat) : Int) := by rw [ho, eo, if_neg (by omega), ek]
          rw [if_neg hn, e3] at K
          refine ⟨fun y => ?_, fun y => ?_⟩
          · rw [if_neg (by omega)] at K; exact K
          · rw [if_pos (by omega)] at K; exact K
    have c1 := h.2 i (by omega)
    have c2 := h.2 (i + 1) hi
    have lsi := lt8 i (by omega)
    refine eX6_pointingAt (rX6_pointingAt_0 fun _ => ⟨by omega, fun z => by omega, fun _ => ⟨by omega, fun _ => ⟨by omega, by omega, ?_⟩, fun z => by omega⟩⟩)
    rw [show (((i + 1 : Nat) : Int).toNat) = i + 1 from rfl, c2, show ((((i + 1 : Nat) : Int) - 1).toNat) = i by omega, c1, ← li]
    refine ⟨fun z => ?_, fun z => ?_⟩
    · have := scan i (Nat.le_refl _) rfl rfl z
      rw [show ((i + 1 : Nat) : Int) - 2 = (i : Int) - 1 by omega]
      exact this
    · rw [if_pos z] at K; exact K
theorem c_talk {X : Cx} {A : AS} {m : Nat} {σ : Sg} {w : Int} (h : InvC CKK A m σ) (hA : okA A) (hw : inI w) : doesC CKK m (opTalk A w) σ (KX11_talk X w σ) := by
  intro Q K
  have h8 := hA.1.1
  have p8 := pow_lt8 h8
  have hN := hA.2.2.2
  unfold opTalk at K
  refine eX11_talk (rX11_talk_0 fun _ => s_areWords hw fun _ => ?_)
  by_cases c2 : 0 ≤ w ∧ w < 32768
  · rw [if_pos c2] at K
    rw [if_pos c2]
    obtain ⟨wd, rfl⟩ := Int.eq_ofNat_of_zero_le c2.1
    rw [show ((wd : Int).toNat) = wd from rfl] at K
    refine ⟨by decide, fun z => absurd z (by decide), fun _ => s_waysWith h hA (by omega) fun σ1 f1 i1 t1 => fun _ => ⟨rfl, ?_⟩⟩
    have KK := K σ1 (fun c k z => f1 c k (by omega)) i1.more
    have tk : talkC A.2.2.2.2 σ1 := i1.2.2.2.2.2.2.1
    have cr : ∀ x, x ∈ (srchW A.1 A.2.1 wd).1 → 1 ≤ ((srchW A.1 A.2.1 wd).2.2.1 x).1 ∧ ((srchW A.1 A.2.1 wd).2.2.1 x).1 < 1000 := fun x hx => ⟨((srch_end hA.2.1 h8).1.way x).2.1, (srch_end hA.2.1 h8).1.fin x hx⟩
    generalize hF : srchW A.1 A.2.1 wd = F at *
    generalize hNL : A.2.2.2.2 = N at *
    have lt8 : ∀ j, j < N.length → N.getD j 0 < A.1.1 := fun j hj => hN.2 _ (getD_in hj)
    have loop : ∀ d i : Nat, i + d = N.length → ∀ s : Int, Q (tlkF F N d i s) σ1 → GX6_cost_4 X s i σ1 (fun r9 σ10 => Rng σ10 → Q r9 σ10) := by
      intro d
      induction d with
      | zero =>
        intro i hi s k1
        have e := tk.1
        exact rX6_cost_4 fun _ => ⟨by omega, fun _ _ => k1, fun z => by omega⟩
      | succ d ih =>
        intro i hi s k1
        have e := tk.1
        have c1 := tk.2 i (by omega)
        have lt := lt8 i (by omega)
        have pw : 2 ^ N.getD i 0 < 2 ^ A.1.1 := Nat.pow_lt_pow_right (by decide) lt
        have pwp := Nat.two_pow_pos (N.getD i 0)
        have tt := t1.1 (2 ^ N.getD i 0) pw (Or.inl rfl)
        have k2 : (pntT F N i = -1 → Q (-1) σ1) ∧ (pntT F N i ≠ -1 → Q (tlkF F N d (i + 1) (s + pntT F N i)) σ1) := by
          have e2 : tlkF F N (d + 1) i s = (if pntT F N i = -1 then -1 else tlkF F N d (i + 1) (s + pntT F N i)) := rfl
          rw [e2] at k1
          exact ⟨fun z => by rw [if_pos z] at k1; exact k1, fun z => by rw [if_neg z] at k1; exact k1⟩
        have sum : ∀ v p s0 : Int, v = pntT F N i → v ≠ -1 → ∀ v4 v6 : Int, GX6_cost_85 X s i v4 p v6 v s σ1 (fun r9 σ10 => Rng σ10 → Q r9 σ10) := fun v p s0 hv hn v4 v6 => by
          subst hv
          exact rX6_cost_85 fun _ => ih (i + 1) (by omega) _ (k2.2 hn)
        refine rX6_cost_4 fun _ => ⟨by omega, fun z => by omega, fun _ => ⟨by omega, fun z => by omega, fun _ => ⟨by omega, s_pointingAt tk hN.1 (fun t ht => by have := hN.2 t ht; omega) (by omega) fun _ => ?_⟩⟩⟩
        rw [show ((i : Int).toNat) = i from rfl, c1, zshl_one (by omega)]
        refine s_isReached (Or.inl rfl) (by omega) fun _ => ?_
        rw [show (((2 ^ N.getD i 0 : Nat) : Int).toNat) = 2 ^ N.getD i 0 from rfl]
        have hc : cstT F (N.getD i 0) = (if 2 ^ N.getD i 0 ∈ F.1 then (F.2.2.1 (2 ^ N.getD i 0)).1 else -1) := rfl
        have hp : pntT F N i = (if ((N.getD i 0 : Nat) : Int) = lastF N i then 1 else if ((N.getD i 0 : Nat) : Int) = othF N i ∧ (cstT F (N.getD i 0) = -1 ∨ 2 < cstT F (N.getD i 0)) then 2 else cstT F (N.getD i 0)) := rfl
        generalize hpt : (if ((N.getD i 0 : Nat) : Int) = lastF N i then (1 : Int) else if ((N.getD i 0 : Nat) : Int) = othF N i then 2 else -1) = pt
        have hpt' : pt = 1 ∨ pt = 2 ∨ pt = -1 := by
          rw [← hpt]
          split
          · exact Or.inl rfl
          · split
            · exact Or.inr (Or.inl rfl)
            · exact Or.inr (Or.inr rfl)
        have val : ∀ c : Int, cstT F (N.getD i 0) = c → pntT F N i = (if pt = 1 then 1 else if pt = 2 ∧ (c = -1 ∨ 2 < c) then 2 else c) := fun c hcc => by
          by_cases a : ((N.getD i 0 : Nat) : Int) = lastF N i
          · have e : pt = 1 := by rw [← hpt, if_pos a]
            rw [hp, hcc, if_pos a, e, if_pos rfl]
          · by_cases b : ((N.getD i 0 : Nat) : Int) = othF N i
            · have e : pt = 2 := by rw [← hpt, if_neg a, if_pos b]
              by_cases g : c = -1 ∨ 2 < c
              · rw [hp, hcc, if_neg a, if_pos ⟨b, g⟩, e, if_neg (by decide), if_pos ⟨rfl, g⟩]
              · rw [hp, hcc, if_neg a, if_neg (fun y => g y.2), e, if_neg (by decide), if_neg (fun y => g y.2)]
            · have e : pt = -1 := by rw [← hpt, if_neg a, if_neg b]
              rw [hp, hcc, if_neg a, if_neg (fun y => b y.1), e, if_neg (by decide), if_neg (fun y => absurd y.1 (by decide))]
        by_cases m : 2 ^ N.getD i 0 ∈ F.1
        · have t2 := tt.1 m
          rw [if_pos m] at hc
          rw [if_neg t2.1]
          have cb := cr _ m
          have vl := val _ hc
          refine ⟨by decide, fun z => absurd z (by decide), fun _ => ⟨by omega, ?_⟩⟩
          rw [show σ1 43 (2 ^ N.getD i 0) = _ from t2.2.1]
          generalize (F.2.2.1 (2 ^ N.getD i 0)).1 = c at *
          refine rX6_cost_56 fun _ => ⟨by omega, fun _ => ⟨by omega, fun y => ⟨by omega, by omega, ?_⟩, fun y => ?_⟩, fun z => by omega⟩
          · refine sum _ _ 0 ?_ (by split <;> omega) _ _
            rw [vl]
            rcases hpt' with rfl | rfl | rfl
            · rw [if_pos rfl]; split <;> omega
            · rw [if_neg (show ¬ (2 : Int) = 1 by decide)]
              by_cases g : 2 < c
              · rw [if_pos g, if_pos ⟨rfl, Or.inr g⟩]
              · rw [if_neg g, if_neg (fun y => by omega)]
            · exact absurd rfl y
          · refine sum _ _ 0 ?_ (by omega) _ _
            rw [vl, y, if_neg (by decide), if_neg (fun y => absurd y.1 (by decide))]
        · rw [if_neg m] at hc
          rw [if_pos (tt.2 m)]
          have vl := val _ hc
          refine ⟨by decide, fun _ => ?_, fun z => absurd rfl z⟩
          refine rX6_cost_56 fun _ => ⟨by omega, fun y => ⟨by omega, fun y => ⟨by omega, by omega, ?_⟩, fun y2 => absurd y2 y⟩, fun y _ => ?_⟩
          · refine sum _ _ 0 ?_ (by split <;> omega) _ _
            rw [vl]
            rcases hpt' with rfl | rfl | rfl
            · rfl
            · rfl
            · exact absurd rfl y
          · refine k2.1 ?_
            rw [vl, y, if_neg (by decide), if_neg (fun y => absurd y.1 (by decide))]
    exact eX6_cost (rX6_cost_0 fun _ => loop N.length 0 (by omega) 0 KK)
  · rw [if_neg c2] at K
    rw [if_neg c2]
    exact ⟨by decide, fun _ => K σ (fun _ _ _ => rfl) h.more, fun z => absurd rfl z⟩
theorem m_talk {X : Cx} {A : AS} {σ : Sg} {w : Int} (h : InvM A σ) (hA : okA A) (hw : inI w) : doesM (opTalk A w) σ (KX12_talk X w σ) := by
  intro Q K
  have h8 := hA.1.1
  have p8 := pow_lt8 h8
  have hN := hA.2.2.2
  unfold opTalk at K
  refine eX12_talk (rX12_talk_0 fun _ => m_areWords hw fun _ => ?_)
  by_cases c2 : 0 ≤ w ∧ w < 32768
  · rw [if_pos c2] at K
    rw [if_pos c2]
    obtain ⟨wd, rfl⟩ := Int.eq_ofNat_of_zero_le c2.1
    rw [show ((wd : Int).toNat) = wd from rfl] at K
    refine ⟨by decide, fun _ => m_search h.1 hA.1 hA.2.1 h.2.2.1 (by omega) fun σ1 f1 s1 => fun _ => ?_, fun z => absurd z (by decide)⟩
    have KK := K σ1 (fun c k z => f1 c k (by omega)) (h.frameS (frZ_scr f1))
    have tk : talkM A.2.2.2.2 σ1 := (h.frameS (frZ_scr f1)).2.2.2.2.2
    have tM := fun x hx => srch_M (x := x) (wd := wd) hA.2.1 h8 s1 hx
    have cr := fun t => cst_rng (wd := wd) (t := t) hA.2.1 h8
    generalize hF : srchW A.1 A.2.1 wd = F at *
    generalize hNL : A.2.2.2.2 = N at *
    have lt8 : ∀ j, j < N.length → N.getD j 0 < A.1.1 := fun j hj => hN.2 _ (getD_in hj)
    have ob : ∀ i, i ≤ N.length → inI (lastF N i) ∧ inI (othF N i) := fun i => by
      induction i with
      | zero => exact fun _ => ⟨show inI (-1) by decide, show inI (-1) by decide⟩
      | succ i ih =>
        intro hi
        have q := ih (by omega)
        have := lt8 i (by omega)
        refine ⟨by show inI ((N.getD i 0 : Nat) : Int); omega, ?_⟩
        show inI (if ((N.getD i 0 : Nat) : Int) = lastF N i then othF N i else lastF N i)
        split
        · exact q.2
        · exact q.1
    have loop : ∀ d i : Nat, i + d = N.length → ∀ s : Int, Q (tlkF F N d i s) σ1 → GX12_talk_25 X wd s (lastF N i) (othF N i) i σ1 Q := by
      intro d
      induction d with
      | zero =>
        intro i hi s k1
        have e := tk.1
        exact rX12_talk_25 fun _ => ⟨by omega, fun _ => k1, fun z => by omega⟩
      | succ d ih =>
        intro i hi s k1
        have e := tk.1
        have c1 := tk.2 i (by omega)
        have lt := lt8 i (by omega)
        have pw : 2 ^ N.getD i 0 < 2 ^ A.1.1 := Nat.pow_lt_pow_right (by decide) lt
        have pwp := Nat.two_pow_pos (N.getD i 0)
        have ct := cr (N.getD i 0)
        have tt := tM (2 ^ N.getD i 0) pw
        have nx := ih (i + 1) (by omega)
        have b := ob i (by omega)
        have ev : σ1 84 (2 ^ N.getD i 0) = cstT F (N.getD i 0) := by
          unfold cstT
          by_cases m : 2 ^ N.getD i 0 ∈ F.1
          · rw [if_pos m]; exact (tt.1 m).1
          · rw [if_neg m]; exact tt.2 m
        have hp : pntT F N i = (if ((N.getD i 0 : Nat) : Int) = lastF N i then 1 else if ((N.getD i 0 : Nat) : Int) = othF N i ∧ (cstT F (N.getD i 0) = -1 ∨ 2 < cstT F (N.getD i 0)) then 2 else cstT F (N.getD i 0)) := rfl
        have eo : othF N (i + 1) = (if ((N.getD i 0 : Nat) : Int) = lastF N i then othF N i else lastF N i) := rfl
        have el : lastF N (i + 1) = ((N.getD i 0 : Nat) : Int) := rfl
        rw [eo, el] at nx
        have e2 : tlkF F N (d + 1) i s = (if pntT F N i = -1 then -1 else tlkF F N d (i + 1) (s + pntT F N i)) := rfl
        rw [e2] at k1
        have g89 : ∀ v : Int, v = pntT F N i → (v = -1 ∨ (1 ≤ v ∧ v < 1000)) → ∀ v7 : Int, GX12_talk_89 X wd s (lastF N i) (othF N i) i ((N.getD i 0 : Nat) : Int) v7 v σ1 Q := by
          intro v hv hb v7
          subst hv
          refine rX12_talk_89 fun _ => ⟨by omega, fun z => ⟨by omega, b.1, fun y => ?_, fun y => ?_⟩, fun z => ?_⟩
          · rw [if_neg z] at k1
            have := nx _ k1
            rw [if_neg y] at this
            exact rX12_talk_116 fun _ => this
          · rw [if_neg z] at k1
            have := nx _ k1
            rw [if_pos y] at this
            exact rX12_talk_116 fun _ => this
          · rw [if_pos z] at k1; exact k1
        refine rX12_talk_25 fun _ => ⟨by omega, fun z => by omega, fun _ => ⟨by omega, ?_⟩⟩
        rw [show ((i : Int).toNat) = i from rfl, c1, zshl_one (by omega), show (((2 ^ N.getD i 0 : Nat) : Int).toNat) = 2 ^ N.getD i 0 from rfl, ev]
        refine ⟨by omega, b.1, fun z => ⟨b.2, fun y => rX12_talk_87 fun _ => g89 _ ?_ ct _, fun y => ⟨fun q => rX12_talk_83 fun _ => g89 _ ?_ (by omega) _, fun q => ⟨fun q2 => rX12_talk_87 fun _ => g89 _ ?_ ct _, fun q2 => rX12_talk_83 fun _ => g89 _ ?_ (by omega) _⟩⟩⟩, fun z => g89 _ ?_ (by omega) _⟩
        · rw [hp, if_neg z, if_neg (fun u => y u.1)]
        · rw [hp, if_neg z, if_pos ⟨y, Or.inl q⟩]
        · rw [hp, if_neg z, if_neg (fun u => by omega)]
        · rw [hp, if_neg z, if_pos ⟨y, Or.inr q2⟩]
        · rw [hp, if_pos z]
    exact loop N.length 0 (by omega) 0 KK
  · rw [if_neg c2] at K
    rw [if_neg c2]
    exact ⟨by decide, fun z => absurd rfl z, fun _ => K σ (fun _ _ _ => rfl) h⟩
