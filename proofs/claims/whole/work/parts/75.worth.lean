/-! worth -/
def bstM (S : Sc) (P : Nat → Int) (wd : Nat) (B : BT) (t : Nat) : Nat → BT
  | 0 => B
  | m + 1 => bstS S P wd (bstM S P wd B t m) t m
theorem pc8_pow : ∀ t, t < 8 → pc8 (2 ^ t) = 1 := by decide
theorem wrth_rng {S : Sc} {P : Nat → Int} {wd : Nat} (hP : okP P) (h8 : S.1 ≤ 8) : ∀ n, 0 ≤ wrthF (srchW S P wd) n ∧ wrthF (srchW S P wd) n ≤ 1000 * (n : Int)
  | 0 => ⟨Int.le_refl _, by show (0 : Int) ≤ 1000 * 0; decide⟩
  | n + 1 => by
    have ih := wrth_rng (wd := wd) hP h8 n
    have h := (srch_end (wd := wd) hP h8).1
    have e : wrthF (srchW S P wd) (n + 1) = wrthF (srchW S P wd) n + (if 2 ^ n ∈ (srchW S P wd).1 then ((srchW S P wd).2.2.1 (2 ^ n)).1 else 50) := rfl
    have q := (h.way (2 ^ n)).2
    rw [e]
    split <;> omega
theorem s_worthOf {X : Cx} {σ : Sg} {Q : Int → Sg → Prop} {c0 : Nat} {S : Sc} {th : Int} {F : AT} (hw : isW c0) (h8 : S.1 ≤ 8) (ht : tabC S th c0 F σ) (K : Q (wrthF F S.1) σ) : KX9_worthOf X c0 S.1 σ Q := by
  have hway := hw.way
  have p8 := pow_lt8 h8
  have loop : ∀ d t : Nat, t + d = S.1 → GX9_worthOf_4 X c0 S.1 (wrthF F t) t σ Q := by
    intro d
    induction d with
    | zero =>
      intro t hi
      have hi : t = S.1 := by omega
      rw [hi]
      exact rX9_worthOf_4 hway fun _ => ⟨by omega, by omega, fun _ => K, fun z => by omega⟩
    | succ d ih =>
      intro t hi
      have nx := ih (t + 1) (by omega)
      have e : wrthF F (t + 1) = wrthF F t + (if 2 ^ t ∈ F.1 then (F.2.2.1 (2 ^ t)).1 else 50) := rfl
      rw [e] at nx
      have pw : 2 ^ t < 2 ^ S.1 := Nat.pow_lt_pow_right (by decide) (by omega)
      have pwp := Nat.two_pow_pos t
      have tt := ht.1 (2 ^ t) pw (Or.inr (pc8_pow t (by omega)))
      refine rX9_worthOf_4 hway fun _ => ⟨by omega, by omega, fun z => by omega, fun _ => ⟨by omega, fun z => by omega, fun _ => ?_⟩⟩
      rw [zshl_one (by omega)]
      refine s_isReached hw (by omega) fun _ => ?_
      rw [show (((2 ^ t : Nat) : Int).toNat) = 2 ^ t from rfl]
      by_cases m : 2 ^ t ∈ F.1
      · rw [if_pos m] at nx
        rw [if_neg (tt.1 m).1, (tt.1 m).2.1]
        exact ⟨by decide, fun z => absurd z (by decide), fun _ => ⟨by omega, rX9_worthOf_39 hway fun _ => nx⟩⟩
      · rw [if_neg m] at nx
        rw [if_pos (tt.2 m)]
        exact ⟨by decide, fun _ => rX9_worthOf_39 hway fun _ => nx, fun z => absurd rfl z⟩
  exact eX9_worthOf (rX9_worthOf_0 hway fun _ => loop S.1 0 (by omega))
theorem m_worthOf {X : Cx} {σ : Sg} {Q : Int → Sg → Prop} {S : Sc} {P : Nat → Int} {wd : Nat} (hM : atM S σ) (hS : okS S) (hP : okP P) (hp : ∀ w, w < 15 → σ 76 w = P w) (hwd : wd < 32768) (K : ∀ σ', frZ σ σ' → Q (wrthF (srchW S P wd) S.1) σ') : KX12_worthOf X wd σ Q := by
  have h8 := hS.1
  have p8 := pow_lt8 h8
  refine eX12_worthOf (rX12_worthOf_0 fun _ => m_search hM hS hP hp hwd fun σ1 f1 s1 => fun _ => ?_)
  have hM1 : atM S σ1 := hM.frame fun c k z => f1 c k (by omega)
  have tM := fun x hx => srch_M (x := x) (wd := wd) hP h8 s1 hx
  have k1 := K σ1 f1
  generalize srchW S P wd = F at *
  have loop : ∀ d t : Nat, t + d = S.1 → GX12_worthOf_9 X wd (wrthF F t) t σ1 Q := by
    intro d
    induction d with
    | zero =>
      intro t hi
      have e := hM1.1
      have hi : t = S.1 := by omega
      rw [hi]
      exact rX12_worthOf_9 fun _ => ⟨by omega, fun _ => k1, fun z => by omega⟩
    | succ d ih =>
      intro t hi
      have e0 := hM1.1
      have nx := ih (t + 1) (by omega)
      have e : wrthF F (t + 1) = wrthF F t + (if 2 ^ t ∈ F.1 then (F.2.2.1 (2 ^ t)).1 else 50) := rfl
      rw [e] at nx
      have pw : 2 ^ t < 2 ^ S.1 := Nat.pow_lt_pow_right (by decide) (by omega)
      have pwp := Nat.two_pow_pos t
      have tt := tM (2 ^ t) pw
      refine rX12_worthOf_9 fun _ => ⟨by omega, fun z => by omega, fun _ => ?_⟩
      rw [zshl_one (by omega), show (((2 ^ t : Nat) : Int).toNat) = 2 ^ t from rfl]
      by_cases m : 2 ^ t ∈ F.1
      · have t2 := tt.1 m
        rw [if_pos m] at nx
        rw [t2.1]
        exact ⟨by omega, fun _ => ⟨by omega, rX12_worthOf_43 fun _ => nx⟩, fun z => by omega⟩
      · rw [if_neg m] at nx
        rw [tt.2 m]
        exact ⟨by omega, fun z => absurd rfl z, fun _ => rX12_worthOf_43 fun _ => nx⟩
  exact loop S.1 0 (by omega)
theorem srch_congr {S S' : Sc} {P : Nat → Int} {wd : Nat} (h1 : S'.1 = S.1) (hN : offN S' P wd = offN S P wd) (hT : ∀ W s, offT S' P wd W s = offT S P wd W s) : srchW S' P wd = srchW S P wd := by
  have hs : ∀ Z s, stepW S' P wd Z s = stepW S P wd Z s := fun Z s => by unfold stepW; rw [hT]
  have hr : ∀ f Z, runW S' P wd f Z = runW S P wd f Z := fun f => by
    induction f with
    | zero => intro Z; rfl
    | succ f ih =>
      intro Z
      show (match nxtW Z (2 ^ S'.1) with | none => Z | some s => runW S' P wd f (stepW S' P wd Z s)) = (match nxtW Z (2 ^ S.1) with | none => Z | some s => runW S P wd f (stepW S P wd Z s))
      rw [h1]
      cases nxtW Z (2 ^ S.1) with
      | none => rfl
      | some s => simp only []; rw [hs, ih]
  unfold srchW
  rw [hr, h1]
  unfold startW
  rw [hN]
/-- without the word mark marks are nothing -/
theorem srch_noMark {S : Sc} {P : Nat → Int} {wd t m : Nat} (hb : wd.testBit 3 = false) : srchW (mrkS S t m) P wd = srchW S P wd := by
  obtain ⟨n, f⟩ := S
  have row : ∀ r, r ≠ 3 → (mrkS (n, f) t m).2 r = f r := fun r hr => by
    funext i
    exact if_neg (fun z => hr z.1)
  have e1 : (mrkS (n, f) t m).1 = n := rfl
  generalize mrkS (n, f) t m = S' at *
  obtain ⟨n', f'⟩ := S'
  have e1 : n' = n := e1
  subst e1
  have row : ∀ r, r ≠ 3 → f' r = f r := row
  have wi : ∀ r v, r ≠ 3 → F_with (n', f') r v = F_with (n', f) r v := fun r v hr => by
    unfold F_with
    show bsN n' (fun t => decide (f' r t = v)) = bsN n' (fun t => decide (f r t = v))
    rw [row r hr]
  have li : ∀ r s, r ≠ 3 → F_link (n', f') r s = F_link (n', f) r s := fun r s hr => by
    unfold F_link
    show bsN n' (fun t => decide ((f' r t).toNat &&& s ≠ 0)) = bsN n' (fun t => decide ((f r t).toNat &&& s ≠ 0))
    rw [row r hr]
  have mo : ∀ s, F_most (n', f') s = F_most (n', f) s := fun s => by
    unfold F_most
    show bsN n' (fun t => s.testBit t && (List.range n').all (fun u => !s.testBit u || decide (f' 2 u ≤ f' 2 t))) = bsN n' (fun t => s.testBit t && (List.range n').all (fun u => !s.testBit u || decide (f 2 u ≤ f 2 t)))
    rw [row 2 (by decide)]
  have le : ∀ s, F_least (n', f') s = F_least (n', f) s := fun s => by
    unfold F_least
    show bsN n' (fun t => s.testBit t && (List.range n').all (fun u => !s.testBit u || decide (f' 2 t ≤ f' 2 u))) = bsN n' (fun t => s.testBit t && (List.range n').all (fun u => !s.testBit u || decide (f 2 t ≤ f 2 u)))
    rw [row 2 (by decide)]
  have lf : ∀ s, F_left (n', f') s = F_left (n', f) s := fun s => by
    unfold F_left
    show bsN n' (fun t => s.testBit t && (List.range n').all (fun u => !s.testBit u || decide (f' 4 t ≤ f' 4 u))) = bsN n' (fun t => s.testBit t && (List.range n').all (fun u => !s.testBit u || decide (f 4 t ≤ f 4 u)))
    rw [row 4 (by decide)]
  have tu : ∀ w s, F_turn (n', f') w s = F_turn (n', f) w s := fun w s => by
    unfold F_turn
    rw [li 5 s (by decide), li 6 s (by decide), mo, le, lf, lf]
    rfl
  refine srch_congr rfl ?_ fun W s => ?_
  · unfold offN
    refine List.map_congr_left fun c hc => ?_
    have : c / 8 < 3 := by
      unfold nameL at hc
      obtain ⟨w, hw, hc⟩ := List.mem_flatMap.mp hc
      have hw4 := List.mem_range.mp hw
      split at hc
      · rename_i hbw
        obtain ⟨v, hv, rfl⟩ := List.mem_map.mp (show c ∈ (List.range (max 1 (nms w))).map (fun v => 8 * w + v) from hc)
        have := nms_le w
        have := List.mem_range.mp hv
        have : w ≠ 3 := fun e => by rw [e, hb] at hbw; cases hbw
        omega
      · cases hc
    have e : F_named (n', f') c = F_named (n', f) c := by
      unfold F_named
      rw [wi 0 _ (by decide), wi 1 _ (by decide)]
      rcases (show c / 8 = 0 ∨ c / 8 = 1 ∨ c / 8 = 2 by omega) with q | q | q <;> rw [q] <;> rfl
    rw [e]
  · unfold offT
    refine List.map_congr_left fun w _ => ?_
    rw [tu]
theorem mrk_val {x m : Nat} (hx : x ≤ 7) (hm : m < 3) : x ||| 2 ^ m ≤ 7 := by
  have : x ||| 2 ^ m < 2 ^ 3 := Nat.or_lt_two_pow (by omega) (Nat.pow_lt_pow_right (by decide) hm)
  omega
theorem mrk_ok {S : Sc} {t m : Nat} (h : okS S) (ht : t < S.1) (hm : m < 3) : okS (mrkS S t m) := by
  have r := (h.2.1 t ht).2.2.2.1
  have := mrk_val (x := (S.2 3 t).toNat) (by omega) hm
  exact setS_ok h (by decide) ⟨by show (0 : Int) ≤ _; omega, by show _ ≤ (7 : Int); omega⟩
theorem mrk_back {x m : Nat} (hb : x.testBit m = false) : ndf (x ||| 2 ^ m) (2 ^ m) = x := by
  apply Nat.eq_of_testBit_eq
  intro i
  rw [ndf_bit, Nat.testBit_or, Nat.testBit_two_pow]
  by_cases e : m = i
  · subst e; simp [hb]
  · simp [e]
def okBT (S : Sc) (P : Nat → Int) (wd : Nat) (B : BT) : Prop := B = (-1, -1) ∨ (0 ≤ B.1 ∧ 0 ≤ B.2 ∧ B.1 < 32 ∧ B.2 ≤ 8000 ∧ (wd.testBit 3 = false → B.2 = wrthF (srchW S P wd) S.1))
theorem bstS_ok {S : Sc} {P : Nat → Int} {wd t m : Nat} {B : BT} (hP : okP P) (h8 : S.1 ≤ 8) (ht : t < S.1) (hm : m < 3) (h : okBT S P wd B) : okBT S P wd (bstS S P wd B t m) := by
  unfold bstS
  split
  · exact h
  · split
    · have r := wrth_rng (S := mrkS S t m) (wd := wd) hP (show (mrkS S t m).1 ≤ 8 from h8) S.1
      refine Or.inr ⟨by show (0 : Int) ≤ ((4 * t + m : Nat) : Int); omega, r.1, by show ((4 * t + m : Nat) : Int) < 32; omega, ?_, fun hb => ?_⟩
      · show wrthF (srchW (mrkS S t m) P wd) S.1 ≤ 8000
        omega
      · show wrthF (srchW (mrkS S t m) P wd) S.1 = _
        rw [srch_noMark hb]
    · exact h
theorem bstM_ok {S : Sc} {P : Nat → Int} {wd t : Nat} {B : BT} (hP : okP P) (h8 : S.1 ≤ 8) (ht : t < S.1) (h : okBT S P wd B) : ∀ m, m ≤ 3 → okBT S P wd (bstM S P wd B t m)
  | 0, _ => h
  | m + 1, hm => bstS_ok hP h8 ht (by omega) (bstM_ok hP h8 ht h m (by omega))
theorem bstN_ok {S : Sc} {P : Nat → Int} {wd : Nat} (hP : okP P) (h8 : S.1 ≤ 8) : ∀ n, n ≤ S.1 → okBT S P wd (bstN S P wd n)
  | 0, _ => Or.inl rfl
  | n + 1, hn => bstM_ok hP h8 (by omega) (bstN_ok hP h8 n (by omega)) 3 (Nat.le_refl _)
/-- without the word mark the first one stays -/
theorem bst_skip {S : Sc} {P : Nat → Int} {wd t m : Nat} {B : BT} (h : okBT S P wd B) (hb : wd.testBit 3 = false) (hn : B.1 ≠ -1) : bstS S P wd B t m = B := by
  unfold bstS
  split
  · rfl
  · rcases h with h | h
    · rw [h] at hn; exact absurd rfl hn
    · rw [srch_noMark hb, if_neg]
      have := h.2.2.2.2 hb
      omega
def opWorth (A : AS) (w k : Int) : Int × AS := (if 0 ≤ w ∧ w < 32768 then (if 0 ≤ k ∧ k < 3 then (if k = 0 then wrthF (srchW A.1 A.2.1 w.toNat) A.1.1 else if k = 1 then (bstN A.1 A.2.1 w.toNat A.1.1).2 else (bstN A.1 A.2.1 w.toNat A.1.1).1) else -3) else -3, A)
theorem m_worth {X : Cx} {A : AS} {σ : Sg} {w k : Int} (h : InvM A σ) (hA : okA A) (hw : inI w) (hk : inI k) : doesM (opWorth A w k) σ (KX12_worth X w k σ) := by
  intro Q K
  have h8 := hA.1.1
  unfold opWorth at K
  refine eX12_worth (rX12_worth_0 fun _ => m_areWords hw fun _ => ?_)
  by_cases c2 : 0 ≤ w ∧ w < 32768
  · rw [if_pos c2] at K
    rw [if_pos c2]
    obtain ⟨wd, rfl⟩ := Int.eq_ofNat_of_zero_le c2.1
    rw [show ((wd : Int).toNat) = wd from rfl] at K
    refine ⟨by decide, fun z => absurd z (by decide), fun _ => m_in hk (by decide) (by decide) fun _ => ?_⟩
    have ck : (if 0 ≤ k ∧ k ≤ 2 then (1 : Int) else 0) = (if 0 ≤ k ∧ k < 3 then 1 else 0) := by
      by_cases c : 0 ≤ k ∧ k < 3
      · rw [if_pos c, if_pos ⟨c.1, by omega⟩]
      · rw [if_neg c, if_neg (fun y => c ⟨y.1, by omega⟩)]
    rw [ck]
    by_cases c3 : 0 ≤ k ∧ k < 3
    · rw [if_pos c3] at K
      rw [if_pos c3]
      refine ⟨by decide, fun _ => ⟨by omega, fun y => ?_, fun y => ?_⟩, fun z => absurd z (by decide)⟩
      · rw [if_neg y] at K
        obtain ⟨S, P, A2⟩ := A
        have hM : atM S σ := h.1
        have hS : okS S := hA.1
        have hP : okP P := hA.2.1
        have hp : ∀ w, w < 15 → σ 76 w = P w := h.2.2.1
        have h8 : S.1 ≤ 8 := hS.1
        have KK : ∀ σ', frZ σ σ' → (¬ k = 1 → Q (bstN S P wd S.1).1 σ') ∧ (k = 1 → Q (bstN S P wd S.1).2 σ') := fun σ' f' => by
          have := K σ' (fun c j z => f' c j (by omega)) (h.frameS (frZ_scr f'))
          exact ⟨fun z => by rw [if_neg z] at this; exact this, fun z => by rw [if_pos z] at this; exact this⟩
        have outer : ∀ d t : Nat, t + d = S.1 → ∀ σ1, frZ σ σ1 → GX12_worth_37 X wd k (bstN S P wd t).1 (bstN S P wd t).2 t σ1 Q := by
          intro d
          induction d with
          | zero =>
            intro t ht σ1 f1
            have ht : t = S.1 := by omega
            have e0 : σ1 69 0 = (S.1 : Int) := by rw [f1 69 0 (by decide)]; exact hM.1
            have k1 := KK σ1 f1
            rw [ht]
            exact rX12_worth_37 fun _ => ⟨by omega, fun _ => ⟨by omega, k1.1, k1.2⟩, fun z => by omega⟩
          | succ d ih =>
            intro t ht σ1 f1
            have e0 : σ1 69 0 = (S.1 : Int) := by rw [f1 69 0 (by decide)]; exact hM.1
            refine rX12_worth_37 fun _ => ⟨by omega, fun z => by omega, fun _ => ?_⟩
            have oB := fun m hm => bstM_ok (wd := wd) (t := t) hP h8 (by omega) (bstN_ok (wd := wd) hP h8 t (by omega)) m hm
            have nx := ih (t + 1) (by omega)
            have inner : ∀ e m : Nat, m + e = 3 → ∀ σ2, frZ σ σ2 → GX12_worth_49 X wd k (bstM S P wd (bstN S P wd t) t m).1 (bstM S P wd (bstN S P wd t) t m).2 t m σ2 Q := by
              intro e
              induction e with
              | zero =>
                intro m hm σ2 f2
                have hm : m = 3 := by omega
                subst hm
                exact rX12_worth_49 fun _ => ⟨by decide, fun _ => nx σ2 f2, fun z => absurd z (by decide)⟩
              | succ e ihe =>
                intro m hm σ2 f2
                have n2 := ihe (m + 1) (by omega)
                have eS : bstM S P wd (bstN S P wd t) t (m + 1) = bstS S P wd (bstM S P wd (bstN S P wd t) t m) t m := rfl
                rw [eS] at n2
                have oBm := oB m (by omega)
                generalize bstM S P wd (bstN S P wd t) t m = B at *
                have e73 : σ2 73 t = S.2 3 t := by rw [f2 73 t (by decide)]; exact (hM.2.2 t (by omega)).2.2.2.1
                have r7 := (hS.2.1 t (by omega)).2.2.2.1
                have ex : ((S.2 3 t).toNat : Int) = S.2 3 t := by omega
                have Bb : inI B.1 ∧ inI B.2 := by
                  rcases oBm with o | o
                  · rw [o]; exact ⟨show inI (-1) by decide, show inI (-1) by decide⟩
                  · omega
                refine rX12_worth_49 fun _ => ⟨by omega, fun z => by omega, fun _ => ⟨by omega, ?_⟩⟩
                rw [show ((t : Int).toNat) = t from rfl, e73, ← ex]
                have hbi := bit_iff (a := (S.2 3 t).toNat) (i := m) (by omega) (by omega)
                rw [hbi]
                unfold bstS at n2
                by_cases hb : (S.2 3 t).toNat.testBit m = true
                · rw [if_pos hb] at n2
                  rw [if_pos hb]
                  exact ⟨fun _ => rX12_worth_151 fun _ => n2 σ2 f2, fun z => absurd z (by decide)⟩
                · rw [if_neg hb] at n2
                  rw [if_neg hb]
                  have pm : 2 ^ m < 2 ^ 3 := Nat.pow_lt_pow_right (by decide) (by omega)
                  refine ⟨fun z => absurd rfl z, fun _ => ⟨by omega, ?_⟩⟩
                  rw [zshl_one (by omega), zor_nat (by omega) (by omega)]
                  have hS' := mrk_ok hS (show t < S.1 by omega) (show m < 3 by omega)
                  have hM' : atM (mrkS S t m) (up2 σ2 73 t (((S.2 3 t).toNat ||| 2 ^ m : Nat) : Int)) := by
                    refine ⟨by rw [up2_nc _ _ (by decide), f2 69 0 (by decide)]; exact hM.1, h8, fun i hi => ?_⟩
                    have q := hM.2.2 i hi
                    have rw' : ∀ r, r ≠ 3 → (mrkS S t m).2 r i = S.2 r i := fun r hr => if_neg (fun z => hr z.1)
                    rw [up2_nc _ _ (show (70 : Nat) ≠ 73 by decide), up2_nc _ _ (show (71 : Nat) ≠ 73 by decide), up2_nc _ _ (show (72 : Nat) ≠ 73 by decide), up2_nc _ _ (show (74 : Nat) ≠ 73 by decide), up2_nc _ _ (show (75 : Nat) ≠ 73 by decide), f2 70 i (by decide), f2 71 i (by decide), f2 72 i (by decide), f2 74 i (by decide), f2 75 i (by decide), rw' 0 (by decide), rw' 1 (by decide), rw' 2 (by decide), rw' 4 (by decide), rw' 6 (by decide)]
                    refine ⟨q.1, q.2.1, q.2.2.1, ?_, q.2.2.2.2.1, q.2.2.2.2.2⟩
                    show _ = (if 3 = 3 ∧ i = t then (((S.2 3 t).toNat ||| 2 ^ m : Nat) : Int) else S.2 3 i)
                    by_cases qi : i = t
                    · rw [if_pos ⟨rfl, qi⟩, qi, up2_s]
                    · rw [if_neg (fun y => qi y.2), up2_nk _ _ qi, f2 73 i (by decide)]; exact q.2.2.2.1
                  refine m_worthOf hM' hS' hP (fun w hw' => by rw [up2_nc _ _ (by decide), f2 76 w (by omega)]; exact hp w hw') (by omega) fun σ3 f3 => fun _ => ?_
                  have f4 : frZ σ (up2 σ3 73 t ((S.2 3 t).toNat : Int)) := fun c j z => by
                    by_cases q : c = 73 ∧ j = t
                    · rw [q.1, q.2, up2_s, ex, ← e73]; exact f2 73 t (by decide)
                    · rw [up2_a _ _ q, f3 c j z, up2_a _ _ q]; exact f2 c j z
                  have rr := wrth_rng (S := mrkS S t m) (wd := wd) hP hS'.1 S.1
                  have e1 : (mrkS S t m).1 = S.1 := rfl
                  rw [e1]
                  generalize wrthF (srchW (mrkS S t m) P wd) S.1 = v at *
                  have put : (B.2 = -1 ∨ v < B.2) → GX12_worth_117 X wd k B.1 B.2 t m ((S.2 3 t).toNat : Int) v (up2 σ3 73 t ((S.2 3 t).toNat : Int)) Q := fun hv => by
                    have n3 := n2 _ f4
                    rw [if_pos hv] at n3
                    have go : GX12_worth_142 X wd k (((4 * t + m : Nat)) : Int) B.2 t m ((S.2 3 t).toNat : Int) v (up2 σ3 73 t ((S.2 3 t).toNat : Int)) Q := rX12_worth_142 fun _ => rX12_worth_149 fun _ => rX12_worth_151 fun _ => n3
                    refine rX12_worth_117 fun _ => ?_
                    rw [show (4 * (t : Int)) + (m : Int) = ((4 * t + m : Nat) : Int) by omega]
                    refine rX12_worth_128 fun _ => ⟨Bb.2, fun z => go, fun z => ⟨by omega, Bb.2, fun y => by omega, fun _ => go⟩⟩
                  refine ⟨by omega, by omega, Bb.2, fun z => put (Or.inl z), fun z => ⟨by omega, Bb.2, fun y => ?_, fun y => put (Or.inr y)⟩⟩
                  have n3 := n2 _ f4
                  rw [if_neg (by omega)] at n3
                  exact rX12_worth_128 fun _ => ⟨Bb.2, fun z2 => absurd z2 z, fun _ => ⟨by omega, Bb.2, fun _ => rX12_worth_149 fun _ => rX12_worth_151 fun _ => n3, fun y2 => by omega⟩⟩
            exact inner 3 0 rfl σ1 f1
        exact outer S.1 0 (by omega) σ (fun _ _ _ => rfl)
      · rw [if_pos y] at K
        exact m_worthOf h.1 hA.1 hA.2.1 h.2.2.1 (by omega) fun σ1 f1 => fun _ => K σ1 (fun c j z => f1 c j (by omega)) (h.frameS (frZ_scr f1))
    · rw [if_neg c3] at K
      rw [if_neg c3]
      exact ⟨by decide, fun z => absurd rfl z, fun _ => K σ (fun _ _ _ => rfl) h⟩
  · rw [if_neg c2] at K
    rw [if_neg c2]
    exact ⟨by decide, fun _ => K σ (fun _ _ _ => rfl) h, fun z => absurd rfl z⟩
