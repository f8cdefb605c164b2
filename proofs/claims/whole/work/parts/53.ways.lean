/-! THE SEARCH: what both do -/
/-- a way: cost (1000: none), code, the parts' sets -/
abbrev WT : Type := Int × Nat × Nat × Nat
def rkF (R : List Nat) (x : Nat) : Nat := R.idxOf x
def ky (R : List Nat) (w : WT) : Int := ((w.1 * 128 + (w.2.1 : Int)) * 512 + (rkF R w.2.2.1 : Int)) * 512 + (rkF R w.2.2.2 : Int)
def updW (R : List Nat) (w v : WT) : WT := if v.1 < 1000 ∧ ky R v < ky R w then v else w
def shpT (R : List Nat) (w : WT) : Prop := w.2.1 < 120 ∧ (prt (w.2.1 / 8) = 0 → w.2.2.1 = 0 ∧ w.2.2.2 = 0) ∧ (prt (w.2.1 / 8) = 1 → w.2.2.1 ∈ R ∧ w.2.2.2 = 0) ∧ (prt (w.2.1 / 8) = 2 → w.2.2.1 ∈ R ∧ w.2.2.2 ∈ R)
theorem rkF_le (R : List Nat) (x : Nat) : rkF R x ≤ R.length := List.idxOf_le_length
theorem rkF_inj {R : List Nat} {x y : Nat} (hx : x ∈ R) (hy : y ∈ R) (h : rkF R x = rkF R y) : x = y := by
  have a := List.idxOf_lt_length_of_mem hx
  have b := List.idxOf_lt_length_of_mem hy
  have c := List.getElem_idxOf a
  have d := List.getElem_idxOf b
  unfold rkF at h
  rw [← c, ← d]
  congr 1
theorem ky_lex {R : List Nat} {u v : WT} (hR : R.length ≤ 256) (hu : u.2.1 < 120) (hv : v.2.1 < 120) : (ky R u < ky R v ↔ u.1 < v.1 ∨ (u.1 = v.1 ∧ (u.2.1 < v.2.1 ∨ (u.2.1 = v.2.1 ∧ (rkF R u.2.2.1 < rkF R v.2.2.1 ∨ (rkF R u.2.2.1 = rkF R v.2.2.1 ∧ rkF R u.2.2.2 < rkF R v.2.2.2)))))) ∧ (ky R u = ky R v ↔ u.1 = v.1 ∧ u.2.1 = v.2.1 ∧ rkF R u.2.2.1 = rkF R v.2.2.1 ∧ rkF R u.2.2.2 = rkF R v.2.2.2) := by
  have a := rkF_le R u.2.2.1
  have b := rkF_le R u.2.2.2
  have c := rkF_le R v.2.2.1
  have d := rkF_le R v.2.2.2
  unfold ky
  constructor <;> omega
theorem ky_cost {R : List Nat} {u v : WT} (hR : R.length ≤ 256) (hu : u.2.1 < 120) (hv : v.2.1 < 120) (h : ky R u ≤ ky R v) : u.1 ≤ v.1 := by
  have := (ky_lex (u := v) (v := u) hR hv hu).1
  rcases Int.lt_or_le v.1 u.1 with q | q
  · have := this.mpr (Or.inl q); omega
  · exact q
theorem prt_3 (w : Nat) : prt w = 0 ∨ prt w = 1 ∨ prt w = 2 := by have := prt_le w; omega
theorem ky_inj {R : List Nat} {u v : WT} (hR : R.length ≤ 256) (hu : shpT R u) (hv : shpT R v) (h : ky R u = ky R v) : u = v := by
  obtain ⟨e1, e2, e3, e4⟩ := (ky_lex hR hu.1 hv.1).2.mp h
  obtain ⟨u1, u2, u3, u4⟩ := u
  obtain ⟨v1, v2, v3, v4⟩ := v
  obtain ⟨-, a0, a1, a2⟩ := hu
  obtain ⟨-, b0, b1, b2⟩ := hv
  have e1 : u1 = v1 := e1
  have e2 : u2 = v2 := e2
  subst e1
  subst e2
  have key : u3 = v3 ∧ u4 = v4 := by
    rcases prt_3 (u2 / 8) with p | p | p
    · exact ⟨(a0 p).1.trans (b0 p).1.symm, (a0 p).2.trans (b0 p).2.symm⟩
    · exact ⟨rkF_inj (a1 p).1 (b1 p).1 e3, (a1 p).2.trans (b1 p).2.symm⟩
    · exact ⟨rkF_inj (a2 p).1 (b2 p).1 e3, rkF_inj (a2 p).2 (b2 p).2 e4⟩
  rw [key.1, key.2]
theorem fold_min {R : List Nat} : ∀ (l : List WT) (w : WT), (l.foldl (updW R) w = w ∨ (l.foldl (updW R) w ∈ l ∧ (l.foldl (updW R) w).1 < 1000)) ∧ ky R (l.foldl (updW R) w) ≤ ky R w ∧ ∀ v ∈ l, v.1 < 1000 → ky R (l.foldl (updW R) w) ≤ ky R v
  | [], w => ⟨Or.inl rfl, Int.le_refl _, fun v hv => by cases hv⟩
  | x :: xs, w => by
    obtain ⟨h1, h2, h3⟩ := fold_min (R := R) xs (updW R w x)
    rw [List.foldl_cons]
    have hu : (updW R w x = w ∨ (updW R w x = x ∧ x.1 < 1000)) ∧ ky R (updW R w x) ≤ ky R w ∧ (x.1 < 1000 → ky R (updW R w x) ≤ ky R x) := by
      unfold updW
      split
      · rename_i c
        exact ⟨Or.inr ⟨rfl, c.1⟩, by omega, fun _ => Int.le_refl _⟩
      · rename_i c
        exact ⟨Or.inl rfl, Int.le_refl _, fun q => by omega⟩
    refine ⟨?_, by omega, fun v hv hc => ?_⟩
    · rcases h1 with h1 | h1
      · rw [h1]
        rcases hu.1 with q | q
        · exact Or.inl q
        · rw [q.1]; exact Or.inr ⟨List.mem_cons_self, q.2⟩
      · exact Or.inr ⟨List.mem_cons_of_mem _ h1.1, h1.2⟩
    · rcases List.mem_cons.mp hv with rfl | hv
      · have := hu.2.2 hc; omega
      · exact h3 v hv hc
/-- the class's way and the way that it stands for -/
def relW (dr : Int) (c w : WT) : Prop := c = w ∨ (dr < c.1 ∧ dr < w.1)
theorem fold_rel {R : List Nat} {l1 l2 : List WT} {w1 w2 : WT} {dr : Int} (hR : R.length ≤ 256) (hl1 : ∀ v ∈ l1, shpT R v) (hw1 : shpT R w1) (hw2 : shpT R w2) (hsub : ∀ v ∈ l2, v ∈ l1) (hdom : ∀ v ∈ l1, v.1 < 1000 → v.1 ≤ dr → ∃ u ∈ l2, u.1 < 1000 ∧ ky R u ≤ ky R v) (h : relW dr w1 w2) : relW dr (l2.foldl (updW R) w1) (l1.foldl (updW R) w2) := by
  obtain ⟨a1, a2, a3⟩ := fold_min (R := R) l1 w2
  obtain ⟨b1, b2, b3⟩ := fold_min (R := R) l2 w1
  generalize l1.foldl (updW R) w2 = r1 at *
  generalize l2.foldl (updW R) w1 = r2 at *
  have s1 : shpT R r1 := by
    rcases a1 with e | e
    · rw [e]; exact hw2
    · exact hl1 _ e.1
  have s2 : shpT R r2 := by
    rcases b1 with e | e
    · rw [e]; exact hw1
    · exact hl1 _ (hsub _ e.1)
  rcases Int.lt_or_le dr r1.1 with q | q
  · refine Or.inr ⟨?_, q⟩
    rcases b1 with e | e
    · rcases h with h | h
      · have := ky_cost hR s1.1 s2.1 (by rw [e, h]; exact a2); omega
      · rw [e]; exact h.1
    · have := ky_cost hR s1.1 s2.1 (a3 _ (hsub _ e.1) e.2); omega
  · refine Or.inl (ky_inj hR s2 s1 ?_)
    have le1 : ky R r2 ≤ ky R r1 := by
      rcases a1 with e | e
      · rcases h with h | h
        · rw [e, ← h]; exact b2
        · rw [e] at q; omega
      · obtain ⟨u, hu, hu1, hu2⟩ := hdom _ e.1 e.2 q
        have := b3 u hu hu1; omega
    have le2 : ky R r1 ≤ ky R r2 := by
      rcases b1 with e | e
      · rcases h with h | h
        · rw [e, h]; exact a2
        · have := ky_cost hR s2.1 s1.1 le1; rw [e] at this; omega
      · exact a3 _ (hsub _ e.1) e.2
    omega
