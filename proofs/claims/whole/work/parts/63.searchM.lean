/-! the reference's search -/
def runW (S : Sc) (P : Nat → Int) (wd : Nat) : Nat → AT → AT
  | 0, Z => Z
  | f + 1, Z => match nxtW Z (2 ^ S.1) with
    | none => Z
    | some s => runW S P wd f (stepW S P wd Z s)
def srchW (S : Sc) (P : Nat → Int) (wd : Nat) : AT := runW S P wd (2 ^ S.1) (startW S P wd)
theorem runW_none {S : Sc} {P : Nat → Int} {wd : Nat} {Z : AT} (h : nxtW Z (2 ^ S.1) = none) : ∀ f, runW S P wd f Z = Z
  | 0 => rfl
  | f + 1 => by unfold runW; rw [h]
theorem runW_some {S : Sc} {P : Nat → Int} {wd f s : Nat} {Z : AT} (h : nxtW Z (2 ^ S.1) = some s) : runW S P wd (f + 1) Z = runW S P wd f (stepW S P wd Z s) := by
  show (match nxtW Z (2 ^ S.1) with | none => Z | some s => runW S P wd f (stepW S P wd Z s)) = _
  rw [h]
theorem AI_full {S : Sc} {Z : AT} (h : AI S Z) (hl : Z.1.length = 2 ^ S.1) : nxtW Z (2 ^ S.1) = none := by
  cases e : nxtW Z (2 ^ S.1) with
  | none => rfl
  | some s =>
    have hn := nxtW_is Z (2 ^ S.1)
    rw [e] at hn
    have := h.len
    have := cnt_more (q := fun _ => false) (q' := fun x => decide (x ∉ Z.1)) (2 ^ S.1) (fun t _ z => by cases z) ⟨s, hn.1, rfl, by simpa using hn.2.1⟩
    omega
/-- at the end nothing is left -/
theorem runW_end {S : Sc} {P : Nat → Int} {wd : Nat} (hP : okP P) (h8 : S.1 ≤ 8) : ∀ f Z, AI S Z → Z.1.length + f = 2 ^ S.1 → AI S (runW S P wd f Z) ∧ nxtW (runW S P wd f Z) (2 ^ S.1) = none
  | 0, Z, h, hl => ⟨h, AI_full h hl⟩
  | f + 1, Z, h, hl => by
    cases e : nxtW Z (2 ^ S.1) with
    | none => rw [runW_none e]; exact ⟨h, e⟩
    | some s =>
      rw [runW_some e]
      have q := AI_step (wd := wd) hP h8 h e
      refine runW_end hP h8 f _ q.1 ?_
      show (Z.1 ++ [s]).length + f = _
      rw [List.length_append, List.length_singleton]; omega
theorem srch_end {S : Sc} {P : Nat → Int} {wd : Nat} (hP : okP P) (h8 : S.1 ≤ 8) : AI S (srchW S P wd) ∧ nxtW (srchW S P wd) (2 ^ S.1) = none := runW_end hP h8 _ _ (AI_start hP) (by show 0 + _ = _; omega)
def plW (D R : List Nat) (W : Nat → WT) (Ln : Nat → Nat) (l : List OF) : AT := (D, R, l.foldl (appW R D) W, Ln)
theorem plW_put {D R : List Nat} {W : Nat → WT} {Ln : Nat → Nat} {l : List OF} {f : OF} : putW (plW D R W Ln l) f = plW D R W Ln (l ++ [f]) := by
  show (D, R, appW R D (l.foldl (appW R D) W) f, Ln) = (D, R, (l ++ [f]).foldl (appW R D) W, Ln)
  rw [List.foldl_append]; rfl
theorem okZ_put {Z : AT} {f : OF} (h : okZ Z) (hf : shpT Z.2.1 f.2 ∧ 1 ≤ f.2.1) : okZ (putW Z f) := by
  refine ⟨h.1, h.2.1, h.2.2.1, fun x => ?_, fun x hx => ?_⟩
  · have q := h.2.2.2.1 x
    show shpT Z.2.1 (appW Z.2.1 Z.1 Z.2.2.1 f x) ∧ 1 ≤ (appW Z.2.1 Z.1 Z.2.2.1 f x).1 ∧ (appW Z.2.1 Z.1 Z.2.2.1 f x).1 ≤ 1000
    unfold appW
    split
    · unfold updW
      split
      · rename_i c
        exact ⟨hf.1, hf.2, by have := c.1; omega⟩
      · exact q
    · exact q
  · show (appW Z.2.1 Z.1 Z.2.2.1 f x).1 < 1000
    have hx : x ∈ Z.1 := hx
    unfold appW
    rw [if_neg (fun z => z.2 hx)]
    exact h.2.2.2.2 x hx
theorem okZ_pl {D R : List Nat} {Ln : Nat → Nat} : ∀ (l : List OF) (W : Nat → WT), okZ (D, R, W, Ln) → (∀ f ∈ l, shpT R f.2 ∧ 1 ≤ f.2.1) → okZ (plW D R W Ln l)
  | [], W, h, _ => h
  | f :: fs, W, h, hf => okZ_pl fs (appW R D W f) (okZ_put (Z := (D, R, W, Ln)) h (hf f List.mem_cons_self)) fun g hg => hf g (List.mem_cons_of_mem _ hg)
theorem plW_D {D R : List Nat} {Ln : Nat → Nat} {W : Nat → WT} {l : List OF} {x : Nat} (h : x ∈ D) : (plW D R W Ln l).2.2.1 x = W x := by
  show l.foldl (appW R D) W x = _
  rw [appW_fold, if_pos h]
def frZ (σ σ' : Sg) : Prop := ∀ c k, ¬ (84 ≤ c ∧ c ≤ 90) → σ' c k = σ c k
theorem frZ.trans {σ σ1 σ2 : Sg} (h1 : frZ σ σ1) (h2 : frZ σ1 σ2) : frZ σ σ2 := fun c k a => (h2 c k a).trans (h1 c k a)
theorem m_put {X : Cx} {D R : List Nat} {W : Nat → WT} {Ln : Nat → Nat} {l : List OF} {σ : Sg} {Q : Int → Sg → Prop} {t : Nat} {v : WT} (hZ : okZ (D, R, W, Ln)) (hl : ∀ f ∈ l, shpT R f.2 ∧ 1 ≤ f.2.1) (hs : srM (plW D R W Ln l) σ) (ht : t < 256) (hv : shpT R v) (hv1 : 1 ≤ v.1 ∧ v.1 < 100000) (hD : t ∈ D → (W t).1 ≤ v.1) (K : ∀ σ', frZ σ σ' → srM (plW D R W Ln (l ++ [(t, v)])) σ' → Q 0 σ') : KX12_offer X t v.1 v.2.1 v.2.2.1 v.2.2.2 σ Q :=
  m_offer (okZ_pl l W hZ hl) hs ht hv hv1 (fun z => by rw [plW_D (show t ∈ D from z)]; exact hD z) fun σ' f s => K σ' (fun c k z => f c k (by omega)) (by rw [← plW_put]; exact s)
theorem ins_ok {S : Sc} {Z : AT} {s : Nat} {L : Nat → Nat} (h8 : S.1 ≤ 8) (h : AI S Z) (hsN : s < 2 ^ S.1) (hsD : s ∉ Z.1) (hsc : (Z.2.2.1 s).1 < 1000) : okZ (Z.1 ++ [s], insW Z.2.1 Z.2.2.1 s Z.2.1, Z.2.2.1, L) := by
  obtain ⟨l1, l2, hR, hR', hsl, -⟩ := AI_pos h8 h hsD hsc
  have p8 := pow_lt8 h8
  have hlen := h.len
  have hrl := h.rlen
  have hone : cnt (fun x => decide (x ∉ Z.1)) (2 ^ S.1) = cnt (fun x => decide (x ∉ Z.1 ++ [s])) (2 ^ S.1) + 1 := cnt_one _ hsN (by simpa using hsD) (by simp) fun t ht => by simp [ht]
  have hmem : ∀ x, x ∈ insW Z.2.1 Z.2.2.1 s Z.2.1 ↔ x ∈ Z.1 ++ [s] := fun x => by
    have := h.mem x
    rw [hR] at this
    rw [hR']
    simp at this ⊢
    constructor
    · rintro (q | q | q)
      · exact Or.inl (this.mp (Or.inl q))
      · exact Or.inr q
      · exact Or.inl (this.mp (Or.inr q))
    · rintro (q | q)
      · rcases this.mpr q with q | q
        · exact Or.inl q
        · exact Or.inr (Or.inr q)
      · exact Or.inr (Or.inl q)
  have up : ∀ w, shpT Z.2.1 w → shpT (insW Z.2.1 Z.2.2.1 s Z.2.1) w := fun w hw => by
    have sub : ∀ x, x ∈ Z.2.1 → x ∈ insW Z.2.1 Z.2.2.1 s Z.2.1 := fun x hx => (hmem x).mpr (List.mem_append.mpr (Or.inl ((h.mem x).mp hx)))
    exact ⟨hw.1, hw.2.1, fun z => ⟨sub _ (hw.2.2.1 z).1, (hw.2.2.1 z).2⟩, fun z => ⟨sub _ (hw.2.2.2 z).1, sub _ (hw.2.2.2 z).2⟩⟩
  refine ⟨?_, hmem, fun x hx => ?_, fun x => ⟨up _ (h.way x).1, (h.way x).2⟩, fun x hx => ?_⟩
  · show (insW Z.2.1 Z.2.2.1 s Z.2.1).length ≤ 256
    have e : Z.2.1.length = l1.length + l2.length := by
      have := congrArg List.length hR
      rw [List.length_append] at this; exact this
    rw [hR', List.length_append, List.length_cons]
    omega
  · rcases List.mem_append.mp (show x ∈ Z.1 ++ [s] from hx) with q | q
    · have := h.lt x q; omega
    · rw [List.mem_singleton.mp q]; omega
  · rcases List.mem_append.mp (show x ∈ Z.1 ++ [s] from hx) with q | q
    · exact h.fin x q
    · rw [List.mem_singleton.mp q]; exact hsc
/-- the reference's offers in their order -/
def refJ (P : Nat → Int) (W : Nat → WT) (D : List Nat) (w s o : Nat) : List OF := if o ∈ D then offJ1 P W w s o else []
def refW (S : Sc) (P : Nat → Int) (wd : Nat) (W : Nat → WT) (D : List Nat) (s w : Nat) : List OF := if wd.testBit w then (if prt w = 1 then [(F_turn S w s, ((W s).1 + P w, 8 * w, s, 0))] else if prt w = 2 then (List.range (2 ^ S.1)).flatMap (refJ P W D w s) else []) else []
def refL (S : Sc) (P : Nat → Int) (wd : Nat) (W : Nat → WT) (D : List Nat) (s w : Nat) : List OF := (List.range w).flatMap (refW S P wd W D s)
theorem flat_succ {α β : Type} (f : Nat → List α) (n : Nat) (_ : β) : (List.range (n + 1)).flatMap f = (List.range n).flatMap f ++ f n := by
  rw [List.range_succ, List.flatMap_append, List.flatMap_singleton]
theorem refL_mem {S : Sc} {P : Nat → Int} {wd : Nat} {W : Nat → WT} {D : List Nat} {s : Nat} (hD : ∀ o, o ∈ D → o < 2 ^ S.1) (f : OF) : f ∈ refL S P wd W D s 15 ↔ f ∈ offT S P wd W s ++ offJ P wd W D s := by
  unfold refL offT offJ
  rw [List.mem_flatMap, List.mem_append, List.mem_map, List.mem_flatMap]
  constructor
  · rintro ⟨w, hw, hf⟩
    unfold refW at hf
    split at hf
    · rename_i hb
      split at hf
      · rename_i hp
        exact Or.inl ⟨w, List.mem_filter.mpr ⟨hw, by simp [hp, hb]⟩, (List.mem_singleton.mp hf).symm⟩
      · split at hf
        · rename_i hp
          obtain ⟨o, ho, hf⟩ := List.mem_flatMap.mp hf
          unfold refJ at hf
          split at hf
          · rename_i hoD
            exact Or.inr ⟨w, List.mem_filter.mpr ⟨hw, by simp [hp, hb]⟩, List.mem_flatMap.mpr ⟨o, hoD, hf⟩⟩
          · cases hf
        · cases hf
    · cases hf
  · rintro (⟨w, hw, hf⟩ | ⟨w, hw, hf⟩)
    · obtain ⟨h1, h2⟩ := List.mem_filter.mp hw
      simp at h2
      refine ⟨w, h1, ?_⟩
      unfold refW
      rw [if_pos h2.2, if_pos h2.1, ← hf]
      exact List.mem_singleton.mpr rfl
    · obtain ⟨h1, h2⟩ := List.mem_filter.mp hw
      simp at h2
      obtain ⟨o, ho, hf⟩ := List.mem_flatMap.mp hf
      refine ⟨w, h1, ?_⟩
      unfold refW
      rw [if_pos h2.2, if_neg (by omega), if_pos h2.1]
      refine List.mem_flatMap.mpr ⟨o, List.mem_range.mpr (hD o ho), ?_⟩
      unfold refJ
      rw [if_pos ho]; exact hf
