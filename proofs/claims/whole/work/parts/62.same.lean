/-- the same offers in another order, or twice: the same ways -/
theorem fold_same {R : List Nat} {l1 l2 : List WT} {w : WT} (hR : R.length ≤ 256) (hl1 : ∀ v ∈ l1, shpT R v) (hw : shpT R w) (h21 : ∀ v ∈ l2, v ∈ l1) (h12 : ∀ v ∈ l1, v ∈ l2) : l2.foldl (updW R) w = l1.foldl (updW R) w :=
  (fold_rel (dr := (l1.foldl (updW R) w).1) hR hl1 hw hw h21 (fun v hv hc _ => ⟨v, h12 v hv, hc, Int.le_refl _⟩) (Or.inl rfl)).resolve_right fun h => by have := h.2; omega
theorem app_same {R D : List Nat} {l1 l2 : List OF} {W : Nat → WT} (hR : R.length ≤ 256) (hl1 : ∀ f ∈ l1, shpT R f.2) (hW : ∀ x, shpT R (W x)) (h21 : ∀ f ∈ l2, f ∈ l1) (h12 : ∀ f ∈ l1, f ∈ l2) : l2.foldl (appW R D) W = l1.foldl (appW R D) W := by
  funext x
  rw [appW_fold, appW_fold]
  split
  · rfl
  · refine fold_same hR (fun v hv => ?_) (hW x) (fun v hv => ?_) fun v hv => ?_
    · obtain ⟨f, hf, rfl⟩ := List.mem_map.mp hv
      exact hl1 f (List.mem_filter.mp hf).1
    · obtain ⟨f, hf, rfl⟩ := List.mem_map.mp hv
      have := List.mem_filter.mp hf
      exact List.mem_map.mpr ⟨f, List.mem_filter.mpr ⟨h21 f this.1, this.2⟩, rfl⟩
    · obtain ⟨f, hf, rfl⟩ := List.mem_map.mp hv
      have := List.mem_filter.mp hf
      exact List.mem_map.mpr ⟨f, List.mem_filter.mpr ⟨h12 f this.1, this.2⟩, rfl⟩
