theorem m_isAhead {X : Cx} {Z : AT} {σ : Sg} {Q : Int → Sg → Prop} {x y : Nat} (hZ : okZ Z) (hs : srM Z σ) (hx : x < 256) (hy : y < 256) (cx : (Z.2.2.1 x).1 < 1000) (cy : (Z.2.2.1 y).1 < 1000) (K : Q (if k2 Z.2.1 (Z.2.2.1 x) < k2 Z.2.1 (Z.2.2.1 y) then 1 else 0) σ) : KX12_isAhead X x y σ Q := by
  obtain ⟨x1, x2, x3⟩ := (hs x hx).2.1 cx
  obtain ⟨y1, y2, y3⟩ := (hs y hy).2.1 cy
  have wx := (hZ.2.2.2.1 x).1
  have wy := (hZ.2.2.2.1 y).1
  have lx := k2_lex (u := Z.2.2.1 x) (v := Z.2.2.1 y) hZ.1 wx.1 wy.1
  have bx := shp_256 hZ wx
  have by' := shp_256 hZ wy
  have yes : k2 Z.2.1 (Z.2.2.1 x) < k2 Z.2.1 (Z.2.2.1 y) → Q 1 σ := fun h => by rw [if_pos h] at K; exact K
  have no : ¬ k2 Z.2.1 (Z.2.2.1 x) < k2 Z.2.1 (Z.2.2.1 y) → Q 0 σ := fun h => by rw [if_neg h] at K; exact K
  have rk : ∀ u, u ∈ Z.2.1 → σ 89 u = (rkF Z.2.1 u : Int) := fun u hu => ((hs u (hZ.2.2.1 u ((hZ.2.1 u).mp hu))).2.2.2 ((hZ.2.1 u).mp hu)).1
  refine eX12_isAhead (rX12_isAhead_0 fun _ => ⟨by omega, by omega, ?_⟩)
  rw [show σ 85 ((x : Int).toNat) = _ from x1, show σ 85 ((y : Int).toNat) = _ from y1, show σ 86 ((x : Int).toNat) = _ from x2, show σ 86 ((y : Int).toNat) = _ from y2, show σ 87 ((x : Int).toNat) = _ from x3, show σ 87 ((y : Int).toNat) = _ from y3]
  refine ⟨fun z => yes (lx.mpr (Or.inl (by omega))), fun z => ⟨by omega, by omega, fun z2 => no fun q => ?_, fun z2 => ⟨by omega, by omega, by omega, by omega, ?_⟩⟩⟩
  · have := lx.mp q; omega
  have ec : (Z.2.2.1 x).2.1 = (Z.2.2.1 y).2.1 := by omega
  rw [show (((Z.2.2.1 x).2.2.1 : Int).toNat) = (Z.2.2.1 x).2.2.1 from rfl, show (((Z.2.2.1 x).2.2.2 : Int).toNat) = (Z.2.2.1 x).2.2.2 from rfl, show (((Z.2.2.1 y).2.2.1 : Int).toNat) = (Z.2.2.1 y).2.2.1 from rfl, show (((Z.2.2.1 y).2.2.2 : Int).toNat) = (Z.2.2.1 y).2.2.2 from rfl]
  have pv := wx.2
  have pw := wy.2
  rw [← ec] at pw
  rcases prt_3 ((Z.2.2.1 x).2.1 / 8) with p | p | p
  · have a := pv.1 p
    have b := pw.1 p
    rw [a.1, a.2, b.1, b.2] at lx
    rw [a.1, a.2, b.1, b.2]
    refine ⟨fun q => by omega, fun _ => ⟨by omega, by omega, fun q => absurd rfl q, fun _ => ⟨by omega, by omega, by omega, by omega, fun _ => no fun q => ?_, fun q => by omega⟩⟩⟩
    have := lx.mp q
    omega
  · have a := pv.2.1 p
    have b := pw.2.1 p
    rw [rk _ a.1, rk _ b.1, a.2, b.2]
    rw [a.2, b.2] at lx
    refine ⟨fun q => yes (lx.mpr (Or.inr ⟨ec, Or.inl (by omega)⟩)), fun q => ⟨by omega, by omega, fun q2 => no fun q3 => ?_, fun q2 => ⟨by omega, by omega, by omega, by omega, fun _ => no fun q3 => ?_, fun q3 => by omega⟩⟩⟩
    · have := lx.mp q3
      omega
    · have e : (Z.2.2.1 x).2.2.1 = (Z.2.2.1 y).2.2.1 := by omega
      rw [e] at lx
      have := lx.mp q3
      omega
  · have a := pv.2.2 p
    have b := pw.2.2 p
    rw [rk _ a.1, rk _ b.1, rk _ a.2, rk _ b.2]
    refine ⟨fun q => yes (lx.mpr (Or.inr ⟨ec, Or.inl (by omega)⟩)), fun q => ⟨by omega, by omega, fun q2 => no fun q3 => ?_, fun q2 => ⟨by omega, by omega, by omega, by omega, fun q4 => no fun q3 => ?_, fun q3 => yes ?_⟩⟩⟩
    · have h3 := lx.mp q3
      have : rkF Z.2.1 (Z.2.2.1 x).2.2.1 = rkF Z.2.1 (Z.2.2.1 y).2.2.1 := by omega
      have := rkF_inj a.1 b.1 this
      omega
    · have h3 := lx.mp q3
      omega
    · have e : (Z.2.2.1 x).2.2.1 = (Z.2.2.1 y).2.2.1 := by omega
      exact lx.mpr (Or.inr ⟨ec, Or.inr ⟨by rw [e], by omega⟩⟩)
/-- how many of a row of sets without doubles lie below n -/
theorem cnt_mem {D : List Nat} {q : Nat → Bool} : ∀ n, (∀ x, q x = true → x ∈ D) → cnt q n ≤ D.length
  | 0, _ => Nat.zero_le _
  | n + 1, h => by
    show cnt q n + _ ≤ _
    by_cases c : q n = true
    · rw [if_pos c]
      have hn := h n c
      have e : cnt q n = cnt (fun x => q x && decide (x ≠ n)) n := cnt_congr n fun t ht => by
        have : t ≠ n := by omega
        simp [this]
      have ih := cnt_mem (D := D.erase n) (q := fun x => q x && decide (x ≠ n)) n fun x hx => by
        simp at hx
        exact (List.mem_erase_of_ne hx.2).mpr (h x hx.1)
      rw [List.length_erase_of_mem hn] at ih
      have := List.length_pos_of_mem hn
      omega
    · rw [if_neg c]
      exact cnt_mem n h
