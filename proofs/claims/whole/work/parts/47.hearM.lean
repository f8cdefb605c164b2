/-! hears, tells, ends: the reference -/
def frF (σ σ' : Sg) : Prop := ∀ c k, ¬ (c = 69 ∧ 10 ≤ k ∧ k ≤ 16) → c ≠ 78 → c ≠ 79 → c ≠ 96 → σ' c k = σ c k
def frQ (σ σ' : Sg) : Prop := ∀ c k, ¬ (c = 69 ∧ 10 ≤ k ∧ k ≤ 16) → ¬ (78 ≤ c ∧ c ≤ 80) → ¬ (94 ≤ c ∧ c ≤ 96) → σ' c k = σ c k
theorem frQ.trans {σ σ1 σ2 : Sg} (h1 : frQ σ σ1) (h2 : frQ σ1 σ2) : frQ σ σ2 := fun c k a b d => (h2 c k a b d).trans (h1 c k a b d)
theorem frQ_scr {σ σ' : Sg} (h : frQ σ σ') : ∀ c k, ¬ scrM c k → σ' c k = σ c k := fun c k z => h c k (by unfold scrM at z; omega) (by unfold scrM at z; omega) (by unfold scrM at z; omega)
theorem frF.toQ {σ σ' : Sg} (h : frF σ σ') : frQ σ σ' := fun c k a b d => h c k a (by omega) (by omega) (by omega)
theorem frR.toQ {σ σ' : Sg} (h : frR σ σ') : frQ σ σ' := fun c k a b d => h c k a (by omega) (by omega)
def hstM (n : Nat) (T : Nat → Nat) (σ : Sg) : Prop := (∀ k, k < n → T k < 256) ∧ ∀ k, k < n → σ 94 k = ((T k : Nat) : Int)
theorem m_findSaid {X : Cx} {A : AS} {σ : Sg} {Q : Int → Sg → Prop} {T : Nat → Nat} (h : InvM A σ) (hA : okA A) (hs : hstM A.2.2.2.1.length T σ) (K : ∀ σ', frF σ σ' → (∀ t, t < A.1.1 → σ' 96 t = saidF T (C0 A) t A.2.2.2.1.length) → Q 0 σ') : KX12_findSaid X σ Q := by
  have hl := hA.2.2.1.1
  have h8 := hA.1.1
  refine eX12_findSaid (rX12_findSaid_0 fun _ => ?_)
  have outer : ∀ d t : Nat, t + d = A.1.1 → ∀ σ1 : Sg, frF σ σ1 → (∀ u, u < t → σ1 96 u = saidF T (C0 A) u A.2.2.2.1.length) → GX12_findSaid_2 X t σ1 Q := by
    intro d
    induction d with
    | zero =>
      intro t ht σ1 f1 g1
      have ht : t = A.1.1 := by omega
      have e : σ1 69 0 = (A.1.1 : Int) := by rw [f1 69 0 (by omega) (by decide) (by decide) (by decide)]; exact h.1.1
      exact rX12_findSaid_2 fun _ => ⟨by omega, fun _ => K σ1 f1 (by rw [← ht]; exact g1), fun z => by omega⟩
    | succ d ih =>
      intro t ht σ1 f1 g1
      have e : σ1 69 0 = (A.1.1 : Int) := by rw [f1 69 0 (by omega) (by decide) (by decide) (by decide)]; exact h.1.1
      refine rX12_findSaid_2 fun _ => ⟨by omega, fun z => by omega, fun _ => ⟨by omega, ?_⟩⟩
      rw [show ((t : Int).toNat) = t from rfl]
      have inner : ∀ e k : Nat, k + e = A.2.2.2.1.length → ∀ (σ2 : Sg) (b : Int), frF σ σ2 → (∀ u, u < t → σ2 96 u = saidF T (C0 A) u A.2.2.2.1.length) → σ2 96 t = saidF T (C0 A) t k → inI b → (∀ o : Nat, saidF T (C0 A) t k = (o : Int) → b = 1000 * (pc8 (T o) : Int) + C0 A o) → GX12_findSaid_21 X t b k σ2 Q := by
        intro e
        induction e with
        | zero =>
          intro k hk σ2 b f2 g2 gt hb hbo
          have hk : k = A.2.2.2.1.length := by omega
          have f2s := frQ_scr f2.toQ
          have e20 : σ2 69 20 = (A.2.2.2.1.length : Int) := by rw [f2 69 20 (by omega) (by decide) (by decide) (by decide)]; exact h.2.2.2.2.1.1
          refine rX12_findSaid_21 fun _ => ⟨by omega, fun _ => ih (t + 1) (by omega) σ2 f2 fun u hu => ?_, fun z => by omega⟩
          rcases Nat.lt_succ_iff_lt_or_eq.mp hu with q | rfl
          · exact g2 u q
          · rw [← hk]; exact gt
        | succ e ihe =>
          intro k hk σ2 b f2 g2 gt hb hbo
          have hk' : k < A.2.2.2.1.length := by omega
          have h2 := h.frameS (frQ_scr f2.toQ)
          have e20 := h2.2.2.2.2.1.1
          have hc := hA.2.2.1.2 _ (getD_memL hk')
          have hTk := hs.1 k hk'
          have hcr := C0_rng hA hk'
          have rg := saidF_rng T (C0 A) t k
          have pk := pc8_le (T k)
          refine rX12_findSaid_21 fun _ => ⟨by omega, fun z => by omega, fun _ => m_recall h2.2.2.2.2.1 hk' hl hc.2.2 fun σ3 f3 hM _ => ⟨by omega, ?_⟩⟩
          have f13 : frF σ σ3 := fun c k a b d e => by rw [f3 c k a b d]; exact f2 c k a b d e
          have h3 := h.frameS (frQ_scr f13.toQ)
          have e94 : σ3 94 ((k : Int).toNat) = ((T k : Nat) : Int) := by rw [show ((k : Int).toNat) = k from rfl, f13 94 k (by omega) (by decide) (by decide) (by decide)]; exact hs.2 k hk'
          have e96 : σ3 96 ((t : Int).toNat) = saidF T (C0 A) t k := by rw [show ((t : Int).toNat) = t from rfl, f3 96 t (by omega) (by decide) (by decide)]; exact gt
          have g3 : ∀ u, u < t → σ3 96 u = saidF T (C0 A) u A.2.2.2.1.length := fun u hu => by rw [f3 96 u (by omega) (by decide) (by decide)]; exact g2 u hu
          rw [e94]
          refine m_bits hTk fun _ => m_cost h3.2.2.1 hM hc.1 fun _ => ⟨by omega, ?_⟩
          rw [e94, bit_is (by omega) (by omega), e96]
          rw [show costL A.2.1 (A.2.2.2.1.getD k []) = C0 A k from rfl]
          have se : saidF T (C0 A) t (k + 1) = (if (T k).testBit t = true ∧ (saidF T (C0 A) t k = -1 ∨ bttr T (C0 A) k (saidF T (C0 A) t k).toNat = true) then (k : Int) else saidF T (C0 A) t k) := rfl
          have no : ∀ v : Int, ¬ ((T k).testBit t = true ∧ (saidF T (C0 A) t k = -1 ∨ bttr T (C0 A) k (saidF T (C0 A) t k).toNat = true)) → GX12_findSaid_94 X t b k v σ3 Q := fun v y => by
            rw [if_neg y] at se
            exact rX12_findSaid_94 fun _ => ihe (k + 1) (by omega) σ3 b f13 g3 (by rw [se]; exact e96) hb (by rw [se]; exact hbo)
          have yes : ((T k).testBit t = true ∧ (saidF T (C0 A) t k = -1 ∨ bttr T (C0 A) k (saidF T (C0 A) t k).toNat = true)) → GX12_findSaid_84 X t b k (1000 * (pc8 (T k) : Int) + C0 A k) σ3 Q := fun y => by
            rw [if_pos y] at se
            refine rX12_findSaid_84 fun _ => ⟨by omega, by omega, rX12_findSaid_94 fun _ => ihe (k + 1) (by omega) _ _ (fun c k a b d e => by rw [up2_nc _ _ e]; exact f13 c k a b d e) (fun u hu => by rw [up2_nk _ _ (show u ≠ ((t : Int).toNat) by show u ≠ t; omega)]; exact g3 u hu) ?_ (by omega) fun o ho => ?_⟩
            · rw [se]; exact up2_s _ _ _ _
            · have : o = k := by rw [se] at ho; omega
              rw [this]
          refine ⟨fun z => no _ (fun y => z y.1), fun z => ⟨by omega, fun y => yes ⟨z, Or.inl y⟩, fun y => ⟨by omega, hb, ?_⟩⟩⟩
          obtain ⟨o, ho⟩ : ∃ o : Nat, saidF T (C0 A) t k = o := ⟨(saidF T (C0 A) t k).toNat, by omega⟩
          have hbe := hbo o ho
          rw [ho] at no yes rg
          have hco := C0_rng hA (show o < A.2.2.2.1.length by omega)
          have hbt : bttr T (C0 A) k o = true ↔ 1000 * (pc8 (T k) : Int) + C0 A k < b := by
            unfold bttr
            rw [hbe]
            simp
            omega
          refine ⟨fun u => no _ (fun w => ?_), fun u => yes ⟨z, Or.inr (hbt.mpr u)⟩⟩
          rcases w.2 with w | w
          · omega
          · have := hbt.mp w; omega
      refine inner A.2.2.2.1.length 0 (by omega) _ 0 (fun c k a b d e => by rw [up2_nc _ _ e]; exact f1 c k a b d e) (fun u hu => by rw [up2_nk _ _ (by omega)]; exact g1 u hu) (up2_s _ _ _ _) (by decide) (fun o ho => ?_)
      have ho : (-1 : Int) = (o : Int) := ho
      omega
  exact outer A.1.1 0 (by omega) σ (fun _ _ _ _ _ _ => rfl) fun u hu => by omega
theorem thk_lt {A : AS} (hA : okA A) : ∀ d k, thk A d k < 256
  | 0, k => mean_lt hA.1.1
  | d + 1, k => by
    show nextT (thk A d) (C0 A) A.2.2.2.1.length A.1.1 k < 256
    unfold nextT
    split
    · exact thk_lt hA d k
    · exact deepF_lt hA.1.1
theorem m_think {X : Cx} {A : AS} {σ : Sg} {Q : Int → Sg → Prop} {d : Nat} (h : InvM A σ) (hA : okA A) (hd : d ≤ 21) (K : ∀ σ', frQ σ σ' → hstM A.2.2.2.1.length (thk A d) σ' → Q 0 σ') : KX12_think X d σ Q := by
  have hl := hA.2.2.1.1
  have h8 := hA.1.1
  refine eX12_think (rX12_think_0 fun _ => ?_)
  have deep : ∀ e j : Nat, j + e = d → ∀ σ1 : Sg, frQ σ σ1 → hstM A.2.2.2.1.length (thk A j) σ1 → GX12_think_33 X d j σ1 Q := by
    intro e
    induction e with
    | zero =>
      intro j hj σ1 f1 hs
      have : j = d := by omega
      subst this
      exact rX12_think_33 fun _ => ⟨by omega, by omega, fun _ => K σ1 f1 hs, fun z => by omega⟩
    | succ e ih =>
      intro j hj σ1 f1 hs
      have h1 := h.frameS (frQ_scr f1)
      refine rX12_think_33 fun _ => ⟨by omega, by omega, fun z => by omega, fun _ => m_findSaid h1 hA hs fun σ2 f2 g2 _ => ?_⟩
      have f12 : frQ σ σ2 := f1.trans f2.toQ
      have e94 : ∀ k, k < A.2.2.2.1.length → σ2 94 k = ((thk A j k : Nat) : Int) := fun k hk => by rw [f2 94 k (by omega) (by decide) (by decide) (by decide)]; exact hs.2 k hk
      -- the third loop
      have take : ∀ (σ3 : Sg), frQ σ σ3 → (∀ k, k < A.2.2.2.1.length → σ3 94 k = ((thk A j k : Nat) : Int)) → (∀ k, k < A.2.2.2.1.length → σ3 95 k = ((deepF (thk A j) (C0 A) A.2.2.2.1.length A.1.1 k : Nat) : Int)) → GX12_think_117 X d j 0 σ3 Q := by
        intro σ3 f3 a3 b3
        have loop : ∀ e2 i : Nat, i + e2 = A.2.2.2.1.length → ∀ σ4 : Sg, (∀ c k, c ≠ 94 → σ4 c k = σ3 c k) → (∀ k, k < i → σ4 94 k = ((thk A (j + 1) k : Nat) : Int)) → (∀ k, i ≤ k → k < A.2.2.2.1.length → σ4 94 k = ((thk A j k : Nat) : Int)) → GX12_think_117 X d j i σ4 Q := by
          intro e2
          induction e2 with
          | zero =>
            intro i hi σ4 f4 a4 b4
            have hi : i = A.2.2.2.1.length := by omega
            have f04 : frQ σ σ4 := fun c k a b d => by rw [f4 c k (by omega)]; exact f3 c k a b d
            have e20 := (h.frameS (frQ_scr f04)).2.2.2.2.1.1
            exact rX12_think_117 fun _ => ⟨by omega, fun _ => ih (j + 1) (by omega) σ4 f04 ⟨fun k _ => thk_lt hA _ k, by rw [← hi]; exact a4⟩, fun z => by omega⟩
          | succ e2 ih2 =>
            intro i hi σ4 f4 a4 b4
            have f04 : frQ σ σ4 := fun c k a b d => by rw [f4 c k (by omega)]; exact f3 c k a b d
            have e20 := (h.frameS (frQ_scr f04)).2.2.2.2.1.1
            have e95 : σ4 95 ((i : Int).toNat) = ((deepF (thk A j) (C0 A) A.2.2.2.1.length A.1.1 i : Nat) : Int) := by rw [show ((i : Int).toNat) = i from rfl, f4 95 i (by decide)]; exact b3 i (by omega)
            have e94' : σ4 94 ((i : Int).toNat) = ((thk A j i : Nat) : Int) := b4 i (Nat.le_refl _) (by omega)
            have ne : thk A (j + 1) i = (if deepF (thk A j) (C0 A) A.2.2.2.1.length A.1.1 i = 0 then thk A j i else deepF (thk A j) (C0 A) A.2.2.2.1.length A.1.1 i) := rfl
            have dl := deepF_lt (T := thk A j) (C := C0 A) (n := A.2.2.2.1.length) (k := i) h8
            have tl := thk_lt hA j i
            have fin : ∀ v : Int, v = ((thk A (j + 1) i : Nat) : Int) → inI v → GX12_think_154 X d j i v i σ4 Q := fun v hv hvi => by
              refine rX12_think_154 fun _ => ⟨by omega, hvi, ih2 (i + 1) (by omega) _ (fun c k z => by rw [up2_nc _ _ z]; exact f4 c k z) (fun k hk => ?_) fun k a b => by rw [up2_nk _ _ (show k ≠ ((i : Int).toNat) by show k ≠ i; omega)]; exact b4 k (by omega) b⟩
              rw [show ((i : Int).toNat) = i from rfl]
              by_cases q : k = i
              · rw [q, up2_s, hv]
              · rw [up2_nk _ _ q]; exact a4 k (by omega)
            refine rX12_think_117 fun _ => ⟨by omega, fun z => by omega, fun _ => ⟨by omega, ?_⟩⟩
            rw [e95, e94']
            refine ⟨fun z => ⟨by omega, fin _ ?_ (by omega)⟩, fun z => ⟨by omega, fin _ ?_ (by omega)⟩⟩
            · rw [ne, if_neg (by omega)]
            · rw [ne, if_pos (by omega)]
        exact loop A.2.2.2.1.length 0 (by omega) σ3 (fun _ _ _ => rfl) (fun k hk => by omega) (fun k _ b => a3 k b)
      have mid : ∀ e2 i : Nat, i + e2 = A.2.2.2.1.length → ∀ σ3 : Sg, (∀ c k, c ≠ 95 → σ3 c k = σ2 c k) → (∀ k, k < i → σ3 95 k = ((deepF (thk A j) (C0 A) A.2.2.2.1.length A.1.1 k : Nat) : Int)) → GX12_think_44 X d j i σ3 Q := by
        intro e2
        induction e2 with
        | zero =>
          intro i hi σ3 f3 b3
          have hi : i = A.2.2.2.1.length := by omega
          have f03 : frQ σ σ3 := fun c k a b d => by rw [f3 c k (by omega)]; exact f12 c k a b d
          have e20 := (h.frameS (frQ_scr f03)).2.2.2.2.1.1
          exact rX12_think_44 fun _ => ⟨by omega, fun _ => take σ3 f03 (fun k hk => by rw [f3 94 k (by decide)]; exact e94 k hk) (fun k hk => b3 k (by omega)), fun z => by omega⟩
        | succ e2 ih2 =>
          intro i hi σ3 f3 b3
          have f03 : frQ σ σ3 := fun c k a b d => by rw [f3 c k (by omega)]; exact f12 c k a b d
          have e20 := (h.frameS (frQ_scr f03)).2.2.2.2.1.1
          refine rX12_think_44 fun _ => ⟨by omega, fun z => by omega, fun _ => ⟨by omega, ?_⟩⟩
          rw [show ((i : Int).toNat) = i from rfl]
          have bits : ∀ e3 t : Nat, t + e3 = A.1.1 → ∀ σ4 : Sg, (∀ c k, c ≠ 95 → σ4 c k = σ2 c k) → (∀ k, k < i → σ4 95 k = ((deepF (thk A j) (C0 A) A.2.2.2.1.length A.1.1 k : Nat) : Int)) → σ4 95 i = ((bsN t (fun t => decide (saidF (thk A j) (C0 A) t A.2.2.2.1.length = (i : Int))) : Nat) : Int) → GX12_think_62 X d j i t σ4 Q := by
            intro e3
            induction e3 with
            | zero =>
              intro t ht σ4 f4 b4 c4
              have ht : t = A.1.1 := by omega
              have e0 : σ4 69 0 = (A.1.1 : Int) := by rw [f4 69 0 (by decide), f12 69 0 (by omega) (by omega) (by omega)]; exact h.1.1
              refine rX12_think_62 fun _ => ⟨by omega, fun _ => ih2 (i + 1) (by omega) σ4 f4 fun k hk => ?_, fun z => by omega⟩
              rcases Nat.lt_succ_iff_lt_or_eq.mp hk with q | rfl
              · exact b4 k q
              · rw [c4, ht]; rfl
            | succ e3 ih3 =>
              intro t ht σ4 f4 b4 c4
              have e0 : σ4 69 0 = (A.1.1 : Int) := by rw [f4 69 0 (by decide), f12 69 0 (by omega) (by omega) (by omega)]; exact h.1.1
              have e96 : σ4 96 ((t : Int).toNat) = saidF (thk A j) (C0 A) t A.2.2.2.1.length := by rw [show ((t : Int).toNat) = t from rfl, f4 96 t (by decide)]; exact g2 t (by omega)
              have hbl := bsN_256 (n := t) (by omega) (fun t => decide (saidF (thk A j) (C0 A) t A.2.2.2.1.length = (i : Int)))
              have fin : ∀ s0 : Int, zor ((bsN t (fun t => decide (saidF (thk A j) (C0 A) t A.2.2.2.1.length = (i : Int))) : Nat) : Int) s0 = ((bsN (t + 1) (fun t => decide (saidF (thk A j) (C0 A) t A.2.2.2.1.length = (i : Int))) : Nat) : Int) → GX12_think_101 X d j i t s0 ((bsN t (fun t => decide (saidF (thk A j) (C0 A) t A.2.2.2.1.length = (i : Int))) : Nat) : Int) i σ4 Q := fun s0 hs0 => by
                refine rX12_think_101 fun _ => ⟨by omega, ?_⟩
                rw [hs0, show ((i : Int).toNat) = i from rfl]
                exact ih3 (t + 1) (by omega) _ (fun c k z => by rw [up2_nc _ _ z]; exact f4 c k z) (fun k hk => by rw [up2_nk _ _ (by omega)]; exact b4 k hk) (up2_s _ _ _ _)
              refine rX12_think_62 fun _ => ⟨by omega, fun z => by omega, fun _ => ⟨by omega, by omega, by omega, ?_⟩⟩
              rw [e96, show σ4 95 ((i : Int).toNat) = _ from c4]
              refine ⟨fun z => fin 0 ?_, fun z => fin _ ?_⟩
              · rw [zor_0 (by omega), bs_out (by simpa using z)]
              · exact bs_in (by omega) (by simpa using z)
          exact bits A.1.1 0 (by omega) _ (fun c k z => by rw [up2_nc _ _ z]; exact f3 c k z) (fun k hk => by rw [up2_nk _ _ (by omega)]; exact b3 k hk) (up2_s _ _ _ _)
      exact mid A.2.2.2.1.length 0 (by omega) σ2 (fun _ _ _ => rfl) fun k hk => by omega
  have loop : ∀ e i : Nat, i + e = A.2.2.2.1.length → ∀ σ1 : Sg, frQ σ σ1 → hstM i (T0 A) σ1 → GX12_think_2 X d i σ1 Q := by
    intro e
    induction e with
    | zero =>
      intro i hi σ1 f1 hs
      have hi : i = A.2.2.2.1.length := by omega
      have h' := h.frameS (frQ_scr f1)
      have e20 := h'.2.2.2.2.1.1
      exact rX12_think_2 fun _ => ⟨by omega, fun _ => deep d 0 (by omega) σ1 f1 (by rw [hi] at hs; exact hs), fun z => by omega⟩
    | succ e ih =>
      intro i hi σ1 f1 hs
      have h' := h.frameS (frQ_scr f1)
      have e20 := h'.2.2.2.2.1.1
      have hi' : i < A.2.2.2.1.length := by omega
      have hc := hA.2.2.1.2 _ (getD_memL hi')
      refine rX12_think_2 fun _ => ⟨by omega, fun z => by omega, fun _ => m_recall h'.2.2.2.2.1 hi' hl hc.2.2 fun σ2 f2 hM _ => ?_⟩
      have f12 : frQ σ σ2 := f1.trans f2.toQ
      have h2 := h.frameS (frQ_scr f12)
      have hm := mean_lt (S := A.1) (L := A.2.2.2.1.getD i []) h8
      refine m_meaning h2.1 hA.1.2.1 hA.1.2.2.1 hA.1.2.2.2.1 hM hc.2.1 hc.1 fun σ3 f3 _ => ⟨by omega, by omega, ih (i + 1) (by omega) _ (fun c k a b d => by rw [up2_nc _ _ (by omega), f3 c k (by omega)]; exact f12 c k a b d) ⟨fun k hk => mean_lt h8, fun k hk => ?_⟩⟩
      rw [show ((i : Int).toNat) = i from rfl]
      by_cases q : k = i
      · rw [q, up2_s]; rfl
      · rw [up2_nk _ _ q, f3 94 k (by decide), f2 94 k (by omega) (by decide) (by decide)]
        exact hs.2 k (by omega)
  exact loop A.2.2.2.1.length 0 (by omega) σ (fun _ _ _ _ _ => rfl) ⟨fun k hk => by omega, fun k hk => by omega⟩
