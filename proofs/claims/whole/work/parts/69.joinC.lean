/-! the class's turns and joins -/
def ofT (S : Sc) (P : Nat → Int) (W : Nat → WT) (s w : Nat) : OF := (F_turn S w s, ((W s).1 + P w, 8 * w, s, 0))
theorem offT_mem {S : Sc} {P : Nat → Int} {wd : Nat} {W : Nat → WT} {s : Nat} {f : OF} : f ∈ offT S P wd W s ↔ ∃ w, w < 15 ∧ prt w = 1 ∧ wd.testBit w = true ∧ f = ofT S P W s w := by
  unfold offT
  rw [List.mem_map]
  constructor
  · rintro ⟨w, hw, rfl⟩
    obtain ⟨h1, h2⟩ := List.mem_filter.mp hw
    simp at h2
    exact ⟨w, List.mem_range.mp h1, h2.1, h2.2, rfl⟩
  · rintro ⟨w, h1, h2, h3, rfl⟩
    exact ⟨w, List.mem_filter.mpr ⟨List.mem_range.mpr h1, by simp [h2, h3]⟩, rfl⟩
theorem offJ_mem {P : Nat → Int} {wd : Nat} {W : Nat → WT} {D : List Nat} {s : Nat} {f : OF} : f ∈ offJ P wd W D s ↔ ∃ w, w < 15 ∧ prt w = 2 ∧ wd.testBit w = true ∧ ∃ o, o ∈ D ∧ f ∈ offJ1 P W w s o := by
  unfold offJ
  rw [List.mem_flatMap]
  constructor
  · rintro ⟨w, hw, hf⟩
    obtain ⟨h1, h2⟩ := List.mem_filter.mp hw
    simp at h2
    obtain ⟨o, ho, hf⟩ := List.mem_flatMap.mp hf
    exact ⟨w, List.mem_range.mp h1, h2.1, h2.2, o, ho, hf⟩
  · rintro ⟨w, h1, h2, h3, o, ho, hf⟩
    exact ⟨w, List.mem_filter.mpr ⟨List.mem_range.mpr h1, by simp [h2, h3]⟩, List.mem_flatMap.mpr ⟨o, ho, hf⟩⟩
theorem prt_2 {w : Nat} (h : prt w = 2) : w = 5 ∨ w = 6 ∨ w = 7 := by
  unfold prt at h
  split at h
  · omega
  · split at h
    · assumption
    · omega
theorem s_turn {X : Cx} {c0 : Nat} {D R : List Nat} {W : Nat → WT} {Ln : Nat → Nat} {σ : Sg} {Q : Int → Sg → Prop} {S : Sc} {P : Nat → Int} {wd s : Nat} {dr : Int} (hw : isW c0) (hA : atC S σ) (hR : okR S) (hap : apart S) (hP : okP P) (hp : ∀ w, w < 15 → σ 11 w = P w) (hwd : wd < 32768) (h7 : σ c0 7 = (wd : Int)) (h10 : σ c0 10 = dr) (hZ : okZ (D, R, W, Ln)) (hs : srC c0 (plW D R W Ln []) σ) (hsD : s ∈ D) (K : ∀ l σ', frO c0 σ σ' → (∀ f ∈ l, f ∈ offT S P wd W s) → (∀ f ∈ offT S P wd W s, f.2.1 ≤ dr → f ∈ l) → srC c0 (plW D R W Ln l) σ' → Q 0 σ') : KX9_turn X c0 s σ Q := by
  have hg := isW_ge hw
  have hway := hw.way
  have s256 := hZ.2.2.1 s hsD
  have hsc := hZ.2.2.2.2 s hsD
  have hs1 := (hZ.2.2.2.1 s).2.1
  have hsc : (W s).1 < 1000 := hsc
  have hs1 : 1 ≤ (W s).1 := hs1
  have s256 : s < 256 := s256
  have sR : s ∈ R := (hZ.2.1 s).mpr hsD
  have tok : ∀ w, w < 15 → prt w = 1 → shpT R (ofT S P W s w).2 ∧ 1 ≤ (ofT S P W s w).2.1 := fun w hw15 hp1 => by
    have e : 8 * w / 8 = w := by omega
    have q := hP w hw15
    refine ⟨⟨by show 8 * w < 120; omega, fun z => ?_, fun _ => ⟨sR, rfl⟩, fun z => ?_⟩, by show 1 ≤ (W s).1 + P w; omega⟩
    · have z : prt (8 * w / 8) = 0 := z
      rw [e] at z; omega
    · have z : prt (8 * w / 8) = 2 := z
      rw [e] at z; omega
  refine eX9_turn (rX9_turn_0 hway fun _ => ?_)
  have loop : ∀ d w, w + d = 15 → 4 ≤ w → ∀ l σ1, frO c0 σ σ1 → (∀ f ∈ l, f ∈ offT S P wd W s) → (∀ u, u < w → prt u = 1 → wd.testBit u = true → (ofT S P W s u).2.1 ≤ dr → ofT S P W s u ∈ l) → srC c0 (plW D R W Ln l) σ1 → GX9_turn_3 X c0 s w σ1 Q := by
    intro d
    induction d with
    | zero =>
      intro w hw' h4 l σ1 f1 sub cov s1
      have hw' : w = 15 := by omega
      subst hw'
      refine rX9_turn_3 hway fun _ => ⟨by decide, fun _ => K l σ1 f1 sub (fun f hf hd => ?_) s1, fun z => absurd z (by decide)⟩
      obtain ⟨u, h1, h2, h3, rfl⟩ := offT_mem.mp hf
      exact cov u h1 h2 h3 hd
    | succ d ih =>
      intro w hw' h4 l σ1 f1 sub cov s1
      have hpl := prt_le w
      have q := hP w (by omega)
      have skip : (prt w = 1 → wd.testBit w = true → (ofT S P W s w).2.1 ≤ dr → False) → GX9_turn_83 X c0 s w σ1 Q := fun hn => rX9_turn_83 hway fun _ => ih (w + 1) (by omega) (by omega) l σ1 f1 sub (fun u hu a b c => by
        rcases Nat.lt_succ_iff_lt_or_eq.mp hu with y | rfl
        · exact cov u y a b c
        · exact (hn a b c).elim) s1
      have e1 : σ1 (c0 + 1) s = (W s).1 := (s1.1 s s256).2.2.1.trans (by rw [plW_D hsD])
      have e11 : σ1 11 w = P w := by rw [f1 11 w (by omega) (by omega)]; exact hp w (by omega)
      have e10 : σ1 c0 10 = dr := by rw [f1 c0 10 (by omega) (by omega)]; exact h10
      refine rX9_turn_3 hway fun _ => ⟨by omega, fun z => by omega, fun _ => ⟨by omega, fun z => by omega, fun _ => s_parts (by omega) fun _ => ⟨by omega, fun z => skip fun a _ _ => by omega, fun z => ?_⟩⟩⟩
      rw [show σ1 c0 7 = (wd : Int) by rw [f1 c0 7 (by omega) (by omega)]; exact h7]
      refine s_isKnown (by omega) (by omega) fun _ => ?_
      by_cases hb : wd.testBit w = true
      · rw [if_pos hb, show ((s : Int).toNat) = s from rfl, show ((w : Int).toNat) = w from rfl, e1, e11, e10]
        have p1 : prt w = 1 := by omega
        refine ⟨by decide, fun z => absurd z (by decide), fun _ => ⟨by omega, by omega, by omega, fun z => skip fun _ _ c => ?_, fun z => ?_⟩⟩
        · have c : (W s).1 + P w ≤ dr := c
          omega
        · refine s_turned (f1.toY.atC hw hA) hR hap (by omega) s256 (fun _ T h => s_bitCount s256 h) fun _ => ?_
          rw [wy_turn (p := (W s).1 + P w) (by omega) s256]
          refine s_put (v := ((W s).1 + P w, 8 * w, s, 0)) hw hZ (fun f hf => ?_) s1 (F_turn_lt hA.2.1 s256) (tok w (by omega) p1).1 ⟨by show 1 ≤ (W s).1 + P w; omega, by show (W s).1 + P w < 100000; omega⟩ fun σ2 f2 s2 => fun _ => rX9_turn_83 hway fun _ => ih (w + 1) (by omega) (by omega) _ σ2 (f1.trans f2) (fun f hf => ?_) (fun u hu a b c => ?_) s2
          · obtain ⟨u, h1, h2, h3, rfl⟩ := offT_mem.mp (sub f hf)
            exact tok u h1 h2
          · rcases List.mem_append.mp hf with y | y
            · exact sub f y
            · rw [List.mem_singleton.mp y]
              exact offT_mem.mpr ⟨w, by omega, p1, hb, rfl⟩
          · rcases Nat.lt_succ_iff_lt_or_eq.mp hu with y | rfl
            · exact List.mem_append.mpr (Or.inl (cov u y a b c))
            · exact List.mem_append.mpr (Or.inr (List.mem_singleton.mpr rfl))
      · rw [if_neg hb]
        exact ⟨by decide, fun _ => skip fun _ y _ => hb y, fun z => absurd rfl z⟩
  refine loop 11 4 rfl (Nat.le_refl _) [] σ (frO.refl _ _) (fun f hf => by cases hf) (fun u hu a _ _ => ?_) hs
  unfold prt at a
  rw [if_pos hu] at a
  omega
def oJ (P : Nat → Int) (W : Nat → WT) (w a b : Nat) : OF := (F_join w a b, (P w + (W a).1 + (W b).1, 8 * w, a, b))
def joinL (P : Nat → Int) (wd : Nat) (W : Nat → WT) (a b : Nat) : List OF := (if wd.testBit 5 then [oJ P W 5 a b] else []) ++ (if wd.testBit 6 then [oJ P W 6 a b] else []) ++ (if wd.testBit 7 then [oJ P W 7 a b, oJ P W 7 b a] else [])
theorem oJ_ok {P : Nat → Int} {D R : List Nat} {W : Nat → WT} {Ln : Nat → Nat} (hP : okP P) (hZ : okZ (D, R, W, Ln)) {w a b : Nat} (hw : w = 5 ∨ w = 6 ∨ w = 7) (ha : a ∈ D) (hb : b ∈ D) : shpT R (oJ P W w a b).2 ∧ 1 ≤ (oJ P W w a b).2.1 ∧ (oJ P W w a b).2.1 < 100000 := by
  have e : 8 * w / 8 = w := by omega
  have q := hP w (by omega)
  have p2 : prt w = 2 := by rcases hw with rfl | rfl | rfl <;> rfl
  have wa : 1 ≤ (W a).1 ∧ (W a).1 ≤ 1000 := (hZ.2.2.2.1 a).2
  have wb : 1 ≤ (W b).1 ∧ (W b).1 ≤ 1000 := (hZ.2.2.2.1 b).2
  refine ⟨⟨by show 8 * w < 120; omega, fun z => ?_, fun z => ?_, fun _ => ⟨(hZ.2.1 a).mpr ha, (hZ.2.1 b).mpr hb⟩⟩, by show 1 ≤ P w + (W a).1 + (W b).1; omega, by show P w + (W a).1 + (W b).1 < 100000; omega⟩
  · have z : prt (8 * w / 8) = 0 := z
    rw [e] at z; omega
  · have z : prt (8 * w / 8) = 1 := z
    rw [e] at z; omega
theorem z_ab {a b : Nat} (ha : a < 256) (hb : b < 256) : zor (zshl (a : Int) 8) (b : Int) = ((a * 256 + b : Nat) : Int) := by
  rw [shl8 a ha, zor_nat (by omega) (by omega)]
  have e := or_add (a := a) (b := b) (k := 8) (by omega)
  rw [show a * 256 = a * 2 ^ 8 by omega, e]
theorem z_wab {w a b : Nat} {p k : Int} (hw : w < 15) (ha : a < 256) (hb : b < 256) (hk : k = ((524288 * w : Nat) : Int)) : zor k ((a * 256 + b : Nat) : Int) = wyI (p, 8 * w, a, b) := by
  rw [hk, zor_nat (by omega) (by omega)]
  have e := or_add (a := w) (b := a * 256 + b) (k := 19) (by omega)
  rw [show 524288 * w = w * 2 ^ 19 by omega, e]
  unfold wyI
  show _ = ((8 * w * 65536 + a * 256 + b : Nat) : Int)
  omega
theorem s_offJ {X : Cx} {c0 : Nat} {D R : List Nat} {W : Nat → WT} {Ln : Nat → Nat} {l : List OF} {σ : Sg} {Q : Int → Sg → Prop} {P : Nat → Int} {w a b : Nat} {t c y : Int} (hw : isW c0) (hP : okP P) (hZ : okZ (D, R, W, Ln)) (hl : ∀ f ∈ l, shpT R f.2 ∧ 1 ≤ f.2.1) (hs : srC c0 (plW D R W Ln l) σ) (hw5 : w = 5 ∨ w = 6 ∨ w = 7) (ha : a ∈ D) (hb : b ∈ D) (ht : t = (F_join w a b : Nat)) (hc : c = P w + (W a).1 + (W b).1) (hy : y = wyI (P w + (W a).1 + (W b).1, 8 * w, a, b)) (K : ∀ σ', frO c0 σ σ' → srC c0 (plW D R W Ln (l ++ [oJ P W w a b])) σ' → Q 0 σ') : KX9_offer X c0 t c y σ Q := by
  have a256 : a < 256 := hZ.2.2.1 a ha
  have b256 : b < 256 := hZ.2.2.1 b hb
  have o := oJ_ok hP hZ hw5 ha hb
  rw [ht, hc, hy]
  exact s_put (t := F_join w a b) (v := (P w + (W a).1 + (W b).1, 8 * w, a, b)) hw hZ hl hs (F_join_lt a256 b256) o.1 o.2 K
theorem s_joinTwo {X : Cx} {c0 : Nat} {D R : List Nat} {W : Nat → WT} {Ln : Nat → Nat} {l : List OF} {σ : Sg} {Q : Int → Sg → Prop} {P : Nat → Int} {wd a b : Nat} (hw : isW c0) (hP : okP P) (hp : ∀ w, w < 15 → σ 11 w = P w) (hwd : wd < 32768) (h7 : σ c0 7 = (wd : Int)) (hZ : okZ (D, R, W, Ln)) (hl : ∀ f ∈ l, shpT R f.2 ∧ 1 ≤ f.2.1) (hs : srC c0 (plW D R W Ln l) σ) (ha : a ∈ D) (hb : b ∈ D) (K : ∀ σ', frO c0 σ σ' → srC c0 (plW D R W Ln (l ++ joinL P wd W a b)) σ' → Q 0 σ') : KX9_joinTwo X c0 a b σ Q := by
  have hg := isW_ge hw
  have hway := hw.way
  have a256 : a < 256 := hZ.2.2.1 a ha
  have b256 : b < 256 := hZ.2.2.1 b hb
  have ea : σ (c0 + 1) a = (W a).1 := (hs.1 a a256).2.2.1.trans (by rw [plW_D ha])
  have eb : σ (c0 + 1) b = (W b).1 := (hs.1 b b256).2.2.1.trans (by rw [plW_D hb])
  have c7 : ∀ σ1, frO c0 σ σ1 → σ1 c0 7 = (wd : Int) := fun σ1 f1 => by rw [f1 c0 7 (by omega) (by omega)]; exact h7
  have c11 : ∀ σ1, frO c0 σ σ1 → ∀ w, w < 15 → σ1 11 w = P w := fun σ1 f1 w hw' => by rw [f1 11 w (by omega) (by omega)]; exact hp w hw'
  have lok : ∀ (l : List OF) (f : OF), (∀ f ∈ l, shpT R f.2 ∧ 1 ≤ f.2.1) → (shpT R f.2 ∧ 1 ≤ f.2.1) → ∀ g ∈ l ++ [f], shpT R g.2 ∧ 1 ≤ g.2.1 := fun l f h1 h2 g hg => by
    rcases List.mem_append.mp hg with y | y
    · exact h1 g y
    · rw [List.mem_singleton.mp y]; exact h2
  have o5 := oJ_ok (w := 5) hP hZ (Or.inl rfl) ha hb
  have o6 := oJ_ok (w := 6) hP hZ (Or.inr (Or.inl rfl)) ha hb
  have o7 := oJ_ok (w := 7) hP hZ (Or.inr (Or.inr rfl)) ha hb
  have g83 : ∀ l1, (∀ f ∈ l1, shpT R f.2 ∧ 1 ≤ f.2.1) → (∀ σ', frO c0 σ σ' → srC c0 (plW D R W Ln (l1 ++ (if wd.testBit 7 then [oJ P W 7 a b, oJ P W 7 b a] else []))) σ' → Q 0 σ') → ∀ σ1, frO c0 σ σ1 → srC c0 (plW D R W Ln l1) σ1 → GX9_joinTwo_83 X c0 a b ((W a).1 + (W b).1) ((a * 256 + b : Nat) : Int) σ1 Q := by
    intro l1 hl1 K1 σ1 f1 s1
    refine rX9_joinTwo_83 hway fun _ => ?_
    rw [c7 σ1 f1]
    refine s_isKnown (w := 7) (by omega) (by decide) fun _ => ?_
    by_cases hb7 : wd.testBit 7 = true
    · rw [if_pos hb7] at K1 ⊢
      refine ⟨by decide, fun z => absurd z (by decide), fun _ => ?_⟩
      rw [show σ1 11 7 = P 7 from c11 σ1 f1 7 (by decide)]
      refine s_offJ (w := 7) hw hP hZ hl1 s1 (Or.inr (Or.inr rfl)) ha hb (zandn_nat (by omega) (by omega)) (by omega) (z_wab (w := 7) (by decide) a256 b256 rfl) fun σ2 f2 s2 => fun _ => ?_
      rw [show σ2 11 7 = P 7 from c11 σ2 (f1.trans f2) 7 (by decide)]
      refine s_offJ (w := 7) hw hP hZ (lok _ _ hl1 ⟨o7.1, o7.2.1⟩) s2 (Or.inr (Or.inr rfl)) hb ha (zandn_nat (by omega) (by omega)) (by omega) ?_ fun σ3 f3 s3 => fun _ => K1 σ3 ((f1.trans f2).trans f3) ?_
      · rw [show (3670016 : Int) = zshl ((7 : Nat) : Int) 19 from (shl19 7 (by decide)).symm]
        exact wy_join (w := 7) (by decide) b256 a256
      · rw [List.append_assoc] at s3; exact s3
    · rw [if_neg hb7] at K1 ⊢
      rw [List.append_nil] at K1
      exact ⟨by decide, fun _ => K1 σ1 f1 s1, fun z => absurd rfl z⟩
  have g52 : ∀ l1, (∀ f ∈ l1, shpT R f.2 ∧ 1 ≤ f.2.1) → (∀ σ', frO c0 σ σ' → srC c0 (plW D R W Ln (l1 ++ (if wd.testBit 6 then [oJ P W 6 a b] else []) ++ (if wd.testBit 7 then [oJ P W 7 a b, oJ P W 7 b a] else []))) σ' → Q 0 σ') → ∀ σ1, frO c0 σ σ1 → srC c0 (plW D R W Ln l1) σ1 → GX9_joinTwo_52 X c0 a b ((W a).1 + (W b).1) ((a * 256 + b : Nat) : Int) σ1 Q := by
    intro l1 hl1 K1 σ1 f1 s1
    refine rX9_joinTwo_52 hway fun _ => ?_
    rw [c7 σ1 f1]
    refine s_isKnown (w := 6) (by omega) (by decide) fun _ => ?_
    by_cases hb6 : wd.testBit 6 = true
    · rw [if_pos hb6] at K1
      rw [if_pos hb6]
      refine ⟨by decide, fun z => absurd z (by decide), fun _ => ?_⟩
      rw [show σ1 11 6 = P 6 from c11 σ1 f1 6 (by decide)]
      exact s_offJ (w := 6) hw hP hZ hl1 s1 (Or.inr (Or.inl rfl)) ha hb (zor_nat (by omega) (by omega)) (by omega) (z_wab (w := 6) (by decide) a256 b256 rfl) fun σ2 f2 s2 => fun _ => g83 _ (lok _ _ hl1 ⟨o6.1, o6.2.1⟩) K1 σ2 (f1.trans f2) s2
    · rw [if_neg hb6, List.append_nil] at K1
      rw [if_neg hb6]
      exact ⟨by decide, fun _ => g83 _ hl1 K1 σ1 f1 s1, fun z => absurd rfl z⟩
  refine eX9_joinTwo (rX9_joinTwo_0 hway fun _ => ⟨by omega, by omega, ?_⟩)
  rw [h7, show ((a : Int).toNat) = a from rfl, show ((b : Int).toNat) = b from rfl, ea, eb, z_ab a256 b256]
  refine s_isKnown (w := 5) (by omega) (by decide) fun _ => ?_
  unfold joinL at K
  by_cases hb5 : wd.testBit 5 = true
  · rw [if_pos hb5] at K
    rw [if_pos hb5]
    refine ⟨by decide, fun z => absurd z (by decide), fun _ => ?_⟩
    rw [show σ 11 5 = P 5 from hp 5 (by decide)]
    refine s_offJ (w := 5) hw hP hZ hl hs (Or.inl rfl) ha hb (zand_nat (by omega) (by omega)) (by omega) (z_wab (w := 5) (by decide) a256 b256 rfl) fun σ2 f2 s2 => fun _ => g52 _ (lok _ _ hl ⟨o5.1, o5.2.1⟩) (fun σ' f' s' => K σ' f' ?_) σ2 f2 s2
    rw [List.append_assoc, List.append_assoc] at s'
    rw [List.append_assoc]; exact s'
  · rw [if_neg hb5] at K
    rw [if_neg hb5]
    refine ⟨by decide, fun _ => g52 _ hl (fun σ' f' s' => K σ' f' ?_) σ (frO.refl _ _) hs, fun z => absurd rfl z⟩
    rw [List.append_assoc] at s'
    exact s'
/-- what the class's joins of two stand for -/
theorem join_cov {P : Nat → Int} {wd : Nat} {W : Nat → WT} {R : List Nat} {s o w a b : Nat} {f : OF} (hR : R.length ≤ 256) (hp : prt w = 2) (hb : wd.testBit w = true) (hab : (a = s ∧ b = o) ∨ (a = o ∧ b = s)) (hr : rkF R a ≤ rkF R b) (hf : f ∈ offJ1 P W w s o) : ∃ u ∈ joinL P wd W a b, u.1 = f.1 ∧ u.2.1 = f.2.1 ∧ ky R u.2 ≤ ky R f.2 := by
  have hf' : (f = (F_join w s o, ((W s).1 + (W o).1 + P w, 8 * w, s, o))) ∨ (f = (F_join w o s, ((W s).1 + (W o).1 + P w, 8 * w, o, s))) := by
    unfold offJ1 at hf
    rcases List.mem_cons.mp hf with y | y
    · exact Or.inl y
    · exact Or.inr (List.mem_singleton.mp y)
  -- f is told of a, b or of b, a
  have ff : f = oJ P W w a b ∨ f = oJ P W w b a := by
    have c1 : (W s).1 + (W o).1 + P w = P w + (W s).1 + (W o).1 := by omega
    have c2 : (W s).1 + (W o).1 + P w = P w + (W o).1 + (W s).1 := by omega
    rcases hab with ⟨rfl, rfl⟩ | ⟨rfl, rfl⟩
    · rcases hf' with y | y
      · left; rw [y, c1]; rfl
      · right; rw [y, c2]; rfl
    · rcases hf' with y | y
      · right; rw [y, c1]; rfl
      · left; rw [y, c2]; rfl
  have ra := rkF_le R a
  have rb := rkF_le R b
  have sym : (∀ x y, F_join w x y = F_join w y x) → oJ P W w a b ∈ joinL P wd W a b → ∃ u ∈ joinL P wd W a b, u.1 = f.1 ∧ u.2.1 = f.2.1 ∧ ky R u.2 ≤ ky R f.2 := by
    intro hs hm
    refine ⟨_, hm, ?_⟩
    rcases ff with rfl | rfl
    · exact ⟨rfl, rfl, Int.le_refl _⟩
    · refine ⟨hs a b, by show P w + (W a).1 + (W b).1 = P w + (W b).1 + (W a).1; omega, ?_⟩
      show (((P w + (W a).1 + (W b).1) * 128 + ((8 * w : Nat) : Int)) * 512 + (rkF R a : Int)) * 512 + (rkF R b : Int) ≤ (((P w + (W b).1 + (W a).1) * 128 + ((8 * w : Nat) : Int)) * 512 + (rkF R b : Int)) * 512 + (rkF R a : Int)
      omega
  rcases prt_2 hp with rfl | rfl | rfl
  · refine sym (fun x y => ?_) ?_
    · show x &&& y = y &&& x
      exact Nat.and_comm x y
    · unfold joinL; rw [if_pos hb]; simp
  · refine sym (fun x y => ?_) ?_
    · show x ||| y = y ||| x
      exact Nat.or_comm x y
    · unfold joinL; rw [if_pos hb]; simp
  · refine ⟨f, ?_, rfl, rfl, Int.le_refl _⟩
    unfold joinL
    rw [if_pos hb]
    rcases ff with rfl | rfl <;> simp
