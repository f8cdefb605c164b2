/-! the class's start -/
theorem s_isKnown {X : Cx} {σ : Sg} {Q : Int → Sg → Prop} {wd w : Nat} (h : wd < 2 ^ 31) (hw : w < 32) (k : Q (if wd.testBit w then 1 else 0) σ) : KX10_isKnown X wd w σ Q := by
  have hb := bit_is (a := wd) (i := w) h hw
  refine eX10_isKnown (rX10_isKnown_0 fun _ => ⟨fun z => ?_, fun z => ?_⟩)
  · rw [if_neg (fun y => z (hb.mpr y))] at k; exact k
  · rw [if_pos (hb.mp z)] at k; exact k
theorem s_areWords {X : Cx} {σ : Sg} {Q : Int → Sg → Prop} {v : Int} (hv : inI v) (k : Q (if 0 ≤ v ∧ v < 32768 then 1 else 0) σ) : KX10_areWords X v σ Q := by
  refine eX10_areWords (rX10_areWords_0 fun _ => s_isWithin hv (by decide) fun _ => ⟨?_, k⟩)
  split
  · exact Or.inr rfl
  · exact Or.inl rfl
theorem m_areWords {X : Cx} {σ : Sg} {Q : Int → Sg → Prop} {v : Int} (hv : inI v) (k : Q (if 0 ≤ v ∧ v < 32768 then 1 else 0) σ) : KX12_areWords X v σ Q := by
  refine eX12_areWords (rX12_areWords_0 fun _ => m_in hv (by decide) (by decide) fun _ => ⟨?_, ?_⟩)
  · split
    · exact Or.inr rfl
    · exact Or.inl rfl
  · have e : (if 0 ≤ v ∧ v ≤ 32767 then (1 : Int) else 0) = (if 0 ≤ v ∧ v < 32768 then 1 else 0) := by
      by_cases c : 0 ≤ v ∧ v < 32768
      · rw [if_pos c, if_pos ⟨c.1, by omega⟩]
      · rw [if_neg c, if_neg (fun y => c ⟨y.1, by omega⟩)]
    rw [e]; exact k
theorem srC_frame {c0 : Nat} {Z : AT} {σ σ' : Sg} (h : srC c0 Z σ) (hf : ∀ c k, (c0 + 1 ≤ c ∧ c ≤ c0 + 6) ∨ (c = c0 ∧ k = 6) → σ' c k = σ c k) : srC c0 Z σ' := by
  obtain ⟨h1, h2, h3, h4⟩ := h
  refine ⟨fun x hx => ?_, fun i hi => ?_, fun i hi => ?_, ?_⟩
  · rw [hf _ x (Or.inl (by omega : c0 + 1 ≤ c0 + 2 ∧ c0 + 2 ≤ c0 + 6)), hf _ x (Or.inl (by omega : c0 + 1 ≤ c0 + 4 ∧ c0 + 4 ≤ c0 + 6)), hf _ x (Or.inl (by omega : c0 + 1 ≤ c0 + 1 ∧ c0 + 1 ≤ c0 + 6)), hf _ x (Or.inl (by omega : c0 + 1 ≤ c0 + 3 ∧ c0 + 3 ≤ c0 + 6))]
    exact h1 x hx
  · rw [hf _ i (Or.inl (by omega : c0 + 1 ≤ c0 + 5 ∧ c0 + 5 ≤ c0 + 6))]; exact h2 i hi
  · rw [hf _ i (Or.inl (by omega : c0 + 1 ≤ c0 + 6 ∧ c0 + 6 ≤ c0 + 6))]; exact h3 i hi
  · rw [hf c0 6 (Or.inr ⟨rfl, rfl⟩)]; exact h4
/-- only the table's costs and ways change -/
def frO (c0 : Nat) (σ σ' : Sg) : Prop := ∀ c k, c ≠ c0 + 1 → c ≠ c0 + 3 → σ' c k = σ c k
theorem frO.trans {c0 : Nat} {σ σ1 σ2 : Sg} (h1 : frO c0 σ σ1) (h2 : frO c0 σ1 σ2) : frO c0 σ σ2 := fun c k a b => (h2 c k a b).trans (h1 c k a b)
theorem frO.refl (c0 : Nat) (σ : Sg) : frO c0 σ σ := fun _ _ _ _ => rfl
theorem s_put {X : Cx} {c0 : Nat} {D R : List Nat} {W : Nat → WT} {Ln : Nat → Nat} {l : List OF} {σ : Sg} {Q : Int → Sg → Prop} {t : Nat} {v : WT} (hw : isW c0) (hZ : okZ (D, R, W, Ln)) (hl : ∀ f ∈ l, shpT R f.2 ∧ 1 ≤ f.2.1) (hs : srC c0 (plW D R W Ln l) σ) (ht : t < 256) (hv : shpT R v) (hv1 : 1 ≤ v.1 ∧ v.1 < 100000) (K : ∀ σ', frO c0 σ σ' → srC c0 (plW D R W Ln (l ++ [(t, v)])) σ' → Q 0 σ') : KX9_offer X c0 t v.1 (wyI v) σ Q :=
  s_offer hw (okZ_pl l W hZ hl) hs ht hv hv1 fun σ' f s => K σ' f (by rw [← plW_put]; exact s)
theorem isW_ge {c0 : Nat} (h : isW c0) : 42 ≤ c0 ∧ c0 ≤ 50 := by unfold isW at h; omega
def ofN (S : Sc) (P : Nat → Int) (c : Nat) : OF := (F_named S c, (P (c / 8), c, 0, 0))
def bitL (wd w : Nat) : List Nat := if wd.testBit w then hearL w else []
theorem offN_is (S : Sc) (P : Nat → Int) (wd : Nat) : offN S P wd = ((List.range 4).flatMap (bitL wd)).map (ofN S P) := rfl
theorem okN : okZ (([], [], (fun _ => noneW), (fun _ => 0)) : AT) := ⟨by decide, fun x => Iff.rfl, fun x hx => absurd hx List.not_mem_nil, fun x => ⟨noneW_ok _, by show (1 : Int) ≤ 1000; decide, by show (1000 : Int) ≤ 1000; decide⟩, fun x hx => absurd hx List.not_mem_nil⟩
theorem ofN_ok {S : Sc} {P : Nat → Int} (hP : okP P) {w v : Nat} (hw : w < 4) (hv : v < max 1 (nms w)) : shpT [] (ofN S P (8 * w + v)).2 ∧ 1 ≤ (ofN S P (8 * w + v)).2.1 ∧ (ofN S P (8 * w + v)).2.1 ≤ 9 ∧ ofN S P (8 * w + v) = (F_named S (8 * w + v), (P w, 8 * w + v, 0, 0)) := by
  have hn := nms_le w
  have e : (8 * w + v) / 8 = w := by omega
  have p0 : prt w = 0 := by unfold prt; rw [if_pos hw]
  have q := hP w (by omega)
  have p0' : prt ((8 * w + v) / 8) = 0 := by rw [e]; exact p0
  have eq : ofN S P (8 * w + v) = (F_named S (8 * w + v), (P w, 8 * w + v, 0, 0)) := by unfold ofN; rw [e]
  rw [eq]
  refine ⟨⟨by show 8 * w + v < 120; omega, fun _ => ⟨rfl, rfl⟩, fun z => ?_, fun z => ?_⟩, q.1, q.2, rfl⟩
  · have z : prt ((8 * w + v) / 8) = 1 := z
    omega
  · have z : prt ((8 * w + v) / 8) = 2 := z
    omega
theorem s_offerNamed {X : Cx} {c0 : Nat} {σ : Sg} {Q : Int → Sg → Prop} {S : Sc} {P : Nat → Int} {l : List OF} {w : Nat} (hw : isW c0) (hA : atC S σ) (hR : okR S) (hP : okP P) (hl : ∀ f ∈ l, shpT [] f.2 ∧ 1 ≤ f.2.1) (hs : srC c0 (plW [] [] (fun _ => noneW) (fun _ => 0) l) σ) (hw4 : w < 4) (K : ∀ σ', frO c0 σ σ' → srC c0 (plW [] [] (fun _ => noneW) (fun _ => 0) (l ++ (hearL w).map (ofN S P))) σ' → Q 0 σ') : KX9_offerNamed X c0 (P w) w σ Q := by
  have hg := isW_ge hw
  have q := hP w (by omega)
  refine eX9_offerNamed (rX9_offerNamed_0 hw.way fun _ => s_numbers (by omega) fun _ => ⟨by have := nms_le w; omega, ?_⟩)
  have hL : hearL w = (List.range (max 1 (nms w))).map (fun v => 8 * w + v) := rfl
  have hok : ∀ v, v < max 1 (nms w) → _ := fun v hv => ofN_ok (S := S) hP hw4 hv
  have mx : 1 ≤ max 1 (nms w) ∧ max 1 (nms w) ≤ 4 := by have := nms_le w; omega
  rw [show (if (1 : Int) < ((nms w : Nat) : Int) then ((nms w : Nat) : Int) else 1) = ((max 1 (nms w) : Nat) : Int) by split <;> omega]
  rw [hL] at K
  generalize max 1 (nms w) = n at *
  have loop : ∀ d v, v + d = n → ∀ σ1, frO c0 σ σ1 → srC c0 (plW [] [] (fun _ => noneW) (fun _ => 0) (l ++ ((List.range v).map (fun v => 8 * w + v)).map (ofN S P))) σ1 → GX9_offerNamed_13 X c0 (P w) w n v σ1 Q := by
    intro d
    induction d with
    | zero =>
      intro v hv σ1 f1 s1
      have hv : v = n := by omega
      subst hv
      exact rX9_offerNamed_13 hw.way fun _ => ⟨by omega, by omega, fun _ => K σ1 f1 s1, fun z => by omega⟩
    | succ d ih =>
      intro v hv σ1 f1 s1
      have o := hok v (by omega)
      have nx := ih (v + 1) (by omega)
      rw [List.range_succ, List.map_append, List.map_append, ← List.append_assoc] at nx
      have hc : 8 * w + v < 32 := by omega
      refine rX9_offerNamed_13 hw.way fun _ => ⟨by omega, by omega, fun z => by omega, fun _ => ?_⟩
      rw [show (8 * (w : Int)) + (v : Int) = ((8 * w + v : Nat) : Int) by omega]
      refine s_named (hA.frame fun c k z => f1 c k (by omega) (by omega)) hR hc fun _ => ?_
      rw [wy_named (p := P w) (show 8 * w + v < 120 by omega)]
      rw [o.2.2.2] at o
      refine s_put (v := (P w, 8 * w + v, 0, 0)) hw okN (fun f hf => ?_) s1 (F_named_lt hA.2.1 _) o.1 ⟨q.1, by show P w < 100000; omega⟩ fun σ2 f2 s2 => fun _ => nx σ2 (f1.trans f2) ?_
      · rcases List.mem_append.mp hf with y | y
        · exact hl f y
        · obtain ⟨c, hc, rfl⟩ := List.mem_map.mp y
          obtain ⟨u, hu, rfl⟩ := List.mem_map.mp hc
          have := hok u (by have := List.mem_range.mp hu; omega)
          exact ⟨this.1, this.2.1⟩
      · have e2 : ([8 * w + v] : List Nat).map (ofN S P) = [(F_named S (8 * w + v), (P w, 8 * w + v, 0, 0))] := by rw [List.map_singleton, (hok v (by omega)).2.2.2]
        rw [show ([v] : List Nat).map (fun v => 8 * w + v) = [8 * w + v] from rfl, e2]
        exact s2
  exact loop n 0 (by omega) σ (frO.refl _ _) (by rw [show ((List.range 0).map (fun v => 8 * w + v)).map (ofN S P) = [] from rfl, List.append_nil]; exact hs)
/-- only the table changes -/
def frY (c0 : Nat) (σ σ' : Sg) : Prop := ∀ c k, ¬ (c = c0 ∧ (k = 6 ∨ k = 10 ∨ k = 11)) → ¬ (c0 + 1 ≤ c ∧ c ≤ c0 + 6) → σ' c k = σ c k
theorem frY.trans {c0 : Nat} {σ σ1 σ2 : Sg} (h1 : frY c0 σ σ1) (h2 : frY c0 σ1 σ2) : frY c0 σ σ2 := fun c k a b => (h2 c k a b).trans (h1 c k a b)
theorem frY.refl (c0 : Nat) (σ : Sg) : frY c0 σ σ := fun _ _ _ _ => rfl
theorem frO.toY {c0 : Nat} {σ σ' : Sg} (h : frO c0 σ σ') : frY c0 σ σ' := fun c k a b => h c k (by omega) (by omega)
theorem frY.atC {c0 : Nat} {σ σ' : Sg} {S : Sc} (hw : isW c0) (h : frY c0 σ σ') (hA : atC S σ) : atC S σ' := hA.frame fun c k z => h c k (by have := isW_ge hw; omega) (by have := isW_ge hw; omega)
theorem frY.prc {c0 : Nat} {σ σ' : Sg} {P : Nat → Int} (hw : isW c0) (h : frY c0 σ σ') (hp : ∀ w, w < 15 → σ 11 w = P w) : ∀ w, w < 15 → σ' 11 w = P w := fun w hw' => by rw [h 11 w (by have := isW_ge hw; omega) (by have := isW_ge hw; omega)]; exact hp w hw'
/-- the least that a join costs -/
def ljOK (P : Nat → Int) (wd : Nat) (lj : Int) (n : Nat) : Prop := (0 ≤ lj ∧ lj ≤ 1000) ∧ ∀ w, w < n → prt w = 2 → wd.testBit w = true → lj ≤ P w
theorem s_start {X : Cx} {c0 : Nat} {σ : Sg} {Q : Int → Sg → Prop} {S : Sc} {P : Nat → Int} {wd : Nat} (hw : isW c0) (hA : atC S σ) (hR : okR S) (hP : okP P) (hp : ∀ w, w < 15 → σ 11 w = P w) (hwd : wd < 32768) (h7 : σ c0 7 = (wd : Int)) (K : ∀ σ', frY c0 σ σ' → srC c0 (startW S P wd) σ' → ljOK P wd (σ' c0 11) 15 → Q 0 σ') : KX9_start X c0 σ Q := by
  have hg := isW_ge hw
  have hway := hw.way
  refine eX9_start (rX9_start_0 hway fun _ => s_fill hway.2.1 (by decide) (by decide) fun σ1 f1 a1 => fun _ => s_fill hway.2.2.2.2.1 (by decide) (by decide) fun σ2 f2 a2 => fun _ => ?_)
  have f3 : frY c0 σ (up2 σ2 c0 11 1000) := fun c k y z => by
    rw [up2_a _ _ (by omega), f2 c k (by omega), f1 c k (by omega), up2_a _ _ (by omega)]
  have s3 : srC c0 (plW [] [] (fun _ => noneW) (fun _ => 0) []) (up2 σ2 c0 11 1000) := by
    refine ⟨fun x hx => ⟨fun z => absurd z List.not_mem_nil, fun _ => ?_, ?_, fun z => absurd z (by show ¬ (1000 : Int) < 1000; decide)⟩, fun i hi => absurd hi (Nat.not_lt_zero i), fun i hi => absurd hi (Nat.not_lt_zero i), ?_⟩
    · rw [up2_nc _ _ (by omega)]; exact a2 x hx
    · rw [up2_nc _ _ (by omega), f2 _ _ (by omega)]; exact a1 x hx
    · rw [up2_nk _ _ (by decide), f2 _ _ (by omega), f1 _ _ (by omega), up2_s]; rfl
  have l3 : ljOK P wd ((up2 σ2 c0 11 1000) c0 11) 0 := by rw [up2_s]; exact ⟨by decide, fun w hw => by omega⟩
  generalize up2 σ2 c0 11 1000 = σ3 at *
  have loop : ∀ d w, w + d = 15 → ∀ σ4, frY c0 σ σ4 → srC c0 (plW [] [] (fun _ => noneW) (fun _ => 0) (((List.range (min w 4)).flatMap (bitL wd)).map (ofN S P))) σ4 → ljOK P wd (σ4 c0 11) w → GX9_start_32 X c0 w σ4 Q := by
    intro d
    induction d with
    | zero =>
      intro w hw' σ4 f4 s4 l4
      have hw' : w = 15 := by omega
      subst hw'
      exact rX9_start_32 hway fun _ => ⟨by decide, fun _ => K σ4 f4 s4 l4, fun z => absurd z (by decide)⟩
    | succ d ih =>
      intro w hw' σ4 f4 s4 l4
      have nx := ih (w + 1) (by omega)
      have e7 : σ4 c0 7 = (wd : Int) := by rw [f4 c0 7 (by omega) (by omega)]; exact h7
      have hpl := prt_le w
      have q := hP w (by omega)
      have lj : ∀ lj : Int, ljOK P wd lj w → (prt w = 2 → wd.testBit w = true → lj ≤ P w) → ljOK P wd lj (w + 1) := fun lj h hh => ⟨h.1, fun u hu hpu hb => by
        rcases Nat.lt_succ_iff_lt_or_eq.mp hu with y | rfl
        · exact h.2 u y hpu hb
        · exact hh hpu hb⟩
      have same : bitL wd w = [] ∨ 4 ≤ w → ((List.range (min (w + 1) 4)).flatMap (bitL wd)) = ((List.range (min w 4)).flatMap (bitL wd)) := fun z => by
        by_cases c : 4 ≤ w
        · rw [show min (w + 1) 4 = min w 4 by omega]
        · rw [show min (w + 1) 4 = w + 1 by omega, show min w 4 = w by omega, flat_succ _ _ (), z.resolve_right c, List.append_nil]
      refine rX9_start_32 hway fun _ => ⟨by omega, fun z => by omega, fun _ => ⟨by omega, fun z => by omega, fun _ => ?_⟩⟩
      rw [e7]
      refine s_isKnown (by omega) (by omega) fun _ => ?_
      by_cases hb : wd.testBit w = true
      · rw [if_pos hb]
        refine ⟨by decide, fun _ => s_parts (by omega) fun _ => ⟨by omega, fun z => s_parts (by omega) fun _ => ⟨by omega, fun z2 => rX9_start_99 hway fun _ => ?_, fun z2 => ⟨by omega, ?_⟩⟩, fun z => ⟨by omega, ?_⟩⟩, fun z => absurd z (by decide)⟩
        · have h4 : 4 ≤ w := by
            rcases Nat.lt_or_ge w 4 with y | y
            · exfalso; apply z; unfold prt; rw [if_pos y]; rfl
            · exact y
          refine nx σ4 f4 ?_ (lj _ l4 fun y => by omega)
          rw [same (Or.inr h4)]; exact s4
        · have h4 : 4 ≤ w := by
            rcases Nat.lt_or_ge w 4 with y | y
            · exfalso; apply z; unfold prt; rw [if_pos y]; rfl
            · exact y
          rw [show σ4 11 ((w : Int).toNat) = _ from f4.prc hw hp w (by omega)]
          have l41 := l4.1
          have mn : (if P w < σ4 c0 11 then P w else σ4 c0 11) ≤ P w ∧ (if P w < σ4 c0 11 then P w else σ4 c0 11) ≤ σ4 c0 11 ∧ 0 ≤ (if P w < σ4 c0 11 then P w else σ4 c0 11) := by split <;> omega
          generalize (if P w < σ4 c0 11 then P w else σ4 c0 11) = mm at *
          refine ⟨by omega, rX9_start_99 hway fun _ => nx _ (fun c k y y2 => by rw [up2_a _ _ (by omega)]; exact f4 c k y y2) ?_ ?_⟩
          · rw [same (Or.inr h4)]
            exact srC_frame s4 fun c k y => up2_a _ _ (by omega)
          · rw [up2_s]
            refine lj _ ⟨by omega, fun u hu hpu hub => ?_⟩ fun _ _ => mn.1
            have := l4.2 u hu hpu hub
            omega
        · have h4 : w < 4 := by
            rcases Nat.lt_or_ge w 4 with y | y
            · exact y
            · exfalso
              have : prt w = 0 := by omega
              unfold prt at this
              rw [if_neg (by omega)] at this
              split at this <;> omega
          rw [show σ4 11 ((w : Int).toNat) = _ from f4.prc hw hp w (by omega)]
          refine s_offerNamed hw (f4.atC hw hA) hR hP (fun f hf => ?_) s4 h4 fun σ5 f5 s5 => fun _ => rX9_start_99 hway fun _ => nx σ5 (f4.trans f5.toY) ?_ ?_
          · obtain ⟨c, hc, rfl⟩ := List.mem_map.mp hf
            obtain ⟨u, hu, hc⟩ := List.mem_flatMap.mp hc
            have hu := List.mem_range.mp hu
            unfold bitL at hc
            split at hc
            · obtain ⟨v, hv, rfl⟩ := List.mem_map.mp (show c ∈ (List.range (max 1 (nms u))).map (fun v => 8 * u + v) from hc)
              have := ofN_ok (S := S) hP (show u < 4 by omega) (List.mem_range.mp hv)
              exact ⟨this.1, this.2.1⟩
            · cases hc
          · rw [show min (w + 1) 4 = w + 1 by omega, flat_succ _ _ (), List.map_append]
            rw [show min w 4 = w by omega] at s5
            rw [show bitL wd w = hearL w from if_pos hb]
            exact s5
          · rw [f5 c0 11 (by omega) (by omega)]
            exact lj _ l4 fun y => by omega
      · rw [if_neg hb]
        refine ⟨by decide, fun z => absurd rfl z, fun _ => rX9_start_99 hway fun _ => nx σ4 f4 ?_ (lj _ l4 fun _ y => absurd y hb)⟩
        rw [same (Or.inl (if_neg hb))]; exact s4
  exact loop 15 0 rfl σ3 f3 s3 l3
