/-! the reference's offer -/
def srM (Z : AT) (σ : Sg) : Prop := ∀ x, x < 256 → σ 84 x = (if (Z.2.2.1 x).1 < 1000 then (Z.2.2.1 x).1 else -1) ∧ ((Z.2.2.1 x).1 < 1000 → σ 85 x = ((Z.2.2.1 x).2.1 : Int) ∧ σ 86 x = ((Z.2.2.1 x).2.2.1 : Int) ∧ σ 87 x = ((Z.2.2.1 x).2.2.2 : Int)) ∧ σ 90 x = (if x ∈ Z.1 then 1 else 0) ∧ (x ∈ Z.1 → σ 89 x = (rkF Z.2.1 x : Int) ∧ σ 88 x = (Z.2.2.2 x : Int))
def okZ (Z : AT) : Prop := Z.2.1.length ≤ 256 ∧ (∀ x, x ∈ Z.2.1 ↔ x ∈ Z.1) ∧ (∀ x, x ∈ Z.1 → x < 256) ∧ (∀ x, shpT Z.2.1 (Z.2.2.1 x) ∧ 1 ≤ (Z.2.2.1 x).1 ∧ (Z.2.2.1 x).1 ≤ 1000) ∧ ∀ x, x ∈ Z.1 → (Z.2.2.1 x).1 < 1000
def putW (Z : AT) (f : OF) : AT := (Z.1, Z.2.1, appW Z.2.1 Z.1 Z.2.2.1 f, Z.2.2.2)
theorem putW_no {Z : AT} {f : OF} (h : f.1 ∈ Z.1 ∨ ¬ (f.2.1 < 1000 ∧ ky Z.2.1 f.2 < ky Z.2.1 (Z.2.2.1 f.1))) : putW Z f = Z := by
  obtain ⟨D, R, W, L⟩ := Z
  show (D, R, appW R D W f, L) = (D, R, W, L)
  have : appW R D W f = W := by
    funext x
    unfold appW
    split
    · rename_i c
      rcases h with h | h
      · exact absurd h (c.1 ▸ c.2)
      · unfold updW
        rw [c.1]
        exact if_neg h
    · rfl
  rw [this]
theorem shp_256 {Z : AT} (h : okZ Z) {v : WT} (hv : shpT Z.2.1 v) : v.2.2.1 < 256 ∧ v.2.2.2 < 256 := by
  have m : ∀ x, x ∈ Z.2.1 → x < 256 := fun x hx => h.2.2.1 x ((h.2.1 x).mp hx)
  rcases prt_3 (v.2.1 / 8) with p | p | p
  · have := hv.2.1 p; omega
  · have := hv.2.2.1 p; exact ⟨m _ this.1, by omega⟩
  · have := hv.2.2.2 p; exact ⟨m _ this.1, m _ this.2⟩
theorem m_offer {X : Cx} {Z : AT} {σ : Sg} {Q : Int → Sg → Prop} {t : Nat} {v : WT} (hZ : okZ Z) (hs : srM Z σ) (ht : t < 256) (hv : shpT Z.2.1 v) (hv1 : 1 ≤ v.1 ∧ v.1 < 100000) (hD : t ∈ Z.1 → (Z.2.2.1 t).1 ≤ v.1) (K : ∀ σ', (∀ c k, ¬ (84 ≤ c ∧ c ≤ 87) → σ' c k = σ c k) → srM (putW Z (t, v)) σ' → Q 0 σ') : KX12_offer X t v.1 v.2.1 v.2.2.1 v.2.2.2 σ Q := by
  obtain ⟨h84, hw, h90, hr⟩ := hs t ht
  obtain ⟨hW, hW1, hW2⟩ := hZ.2.2.2.1 t
  have hl := ky_lex (u := v) (v := Z.2.2.1 t) hZ.1 hv.1 hW.1
  have v256 := shp_256 hZ hv
  have w256 := shp_256 hZ hW
  have vc := hv.1
  have wc := hW.1
  have keep : ¬ (v.1 < 1000 ∧ ky Z.2.1 v < ky Z.2.1 (Z.2.2.1 t)) ∨ t ∈ Z.1 → Q 0 σ := fun y => K σ (fun _ _ _ => rfl) (by rw [putW_no (f := (t, v)) y.symm]; exact hs)
  have store : ∀ s : Int, s = 1 → v.1 < 1000 → ky Z.2.1 v < ky Z.2.1 (Z.2.2.1 t) → t ∉ Z.1 → GX12_offer_138 X t v.1 v.2.1 v.2.2.1 v.2.2.2 s σ Q := by
    intro s hs1 hc hk hn
    subst hs1
    refine rX12_offer_138 fun _ => ⟨by decide, fun z => absurd z (by decide), fun _ => ⟨by omega, by omega, by omega, by omega, by omega, by omega, by omega, by omega, ?_⟩⟩
    rw [show ((t : Int).toNat) = t from rfl]
    refine K _ (fun c k y => by rw [up2_nc _ _ (by omega), up2_nc _ _ (by omega), up2_nc _ _ (by omega), up2_nc _ _ (by omega)]) fun x hx => ?_
    have q := hs x hx
    rw [up2_nc _ _ (show (84 : Nat) ≠ 87 by decide), up2_nc _ _ (show (84 : Nat) ≠ 86 by decide), up2_nc _ _ (show (84 : Nat) ≠ 85 by decide), up2_nc _ _ (show (85 : Nat) ≠ 87 by decide), up2_nc _ _ (show (85 : Nat) ≠ 86 by decide), up2_nc _ _ (show (86 : Nat) ≠ 87 by decide), up2_nc _ _ (show (90 : Nat) ≠ 87 by decide), up2_nc _ _ (show (90 : Nat) ≠ 86 by decide), up2_nc _ _ (show (90 : Nat) ≠ 85 by decide), up2_nc _ _ (show (90 : Nat) ≠ 84 by decide), up2_nc _ _ (show (89 : Nat) ≠ 87 by decide), up2_nc _ _ (show (89 : Nat) ≠ 86 by decide), up2_nc _ _ (show (89 : Nat) ≠ 85 by decide), up2_nc _ _ (show (89 : Nat) ≠ 84 by decide), up2_nc _ _ (show (88 : Nat) ≠ 87 by decide), up2_nc _ _ (show (88 : Nat) ≠ 86 by decide), up2_nc _ _ (show (88 : Nat) ≠ 85 by decide), up2_nc _ _ (show (88 : Nat) ≠ 84 by decide)]
    by_cases e : x = t
    · have ew : (putW Z (t, v)).2.2.1 x = v := by
        show appW _ _ _ _ x = v
        unfold appW
        rw [if_pos ⟨e, by rw [e]; exact hn⟩]
        unfold updW
        rw [e, if_pos ⟨hc, hk⟩]
      rw [ew, e, up2_s, up2_s, up2_s, up2_s, if_pos hc]
      refine ⟨rfl, fun _ => ⟨rfl, rfl, rfl⟩, ?_, ?_⟩
      · rw [e] at q; exact q.2.2.1
      · rw [e] at q; exact q.2.2.2
    · have ew : (putW Z (t, v)).2.2.1 x = Z.2.2.1 x := if_neg (fun z => e z.1)
      rw [ew, up2_nk _ _ e, up2_nk _ _ e, up2_nc _ _ (show (85 : Nat) ≠ 84 by decide), up2_nk _ _ e, up2_nc _ _ (show (86 : Nat) ≠ 85 by decide), up2_nc _ _ (show (86 : Nat) ≠ 84 by decide), up2_nk _ _ e, up2_nc _ _ (show (87 : Nat) ≠ 86 by decide), up2_nc _ _ (show (87 : Nat) ≠ 85 by decide), up2_nc _ _ (show (87 : Nat) ≠ 84 by decide)]
      exact q
  have none0 : ¬ (v.1 < 1000 ∧ ky Z.2.1 v < ky Z.2.1 (Z.2.2.1 t)) ∨ t ∈ Z.1 → ∀ s : Int, s = 0 → GX12_offer_138 X t v.1 v.2.1 v.2.2.1 v.2.2.2 s σ Q := fun y s hs0 => rX12_offer_138 fun _ => ⟨by omega, fun _ => keep y, fun z => absurd hs0 z⟩
  have dry : ¬ v.1 < 1000 ∨ (Z.2.2.1 t).1 ≤ v.1 → GX12_offer_31 X t v.1 v.2.1 v.2.2.1 v.2.2.2 σ Q := by
    intro hle
    refine rX12_offer_31 fun _ => rX12_offer_32 fun _ => ⟨by decide, fun z => absurd rfl z, fun _ => ⟨by omega, by omega, ?_⟩⟩
    rw [show σ 84 ((t : Int).toNat) = _ from h84]
    refine ⟨fun z => none0 (Or.inl fun y => ?_) 0 rfl, fun z => ?_⟩
    · have := hl.1.mp y.2
      split at z <;> omega
    · have hc : (Z.2.2.1 t).1 < 1000 := by split at z <;> omega
      rw [if_pos hc] at z
      obtain ⟨w1, w2, w3⟩ := hw hc
      refine ⟨by omega, ?_⟩
      rw [show σ 90 ((t : Int).toNat) = _ from h90]
      refine ⟨fun y => none0 (Or.inr ?_) 0 rfl, fun y => ⟨by omega, by omega, ?_⟩⟩
      · split at y
        · assumption
        · exact absurd rfl y
      · have hn : t ∉ Z.1 := fun m => by rw [if_pos m] at y; exact absurd y (by decide)
        rw [show σ 85 ((t : Int).toNat) = _ from w1, show σ 86 ((t : Int).toNat) = _ from w2, show σ 87 ((t : Int).toNat) = _ from w3]
        have yes : ky Z.2.1 v < ky Z.2.1 (Z.2.2.1 t) → GX12_offer_131 X t v.1 v.2.1 v.2.2.1 v.2.2.2 0 σ Q := fun hk => rX12_offer_131 fun _ => rX12_offer_136 fun _ => store 1 rfl (by omega) hk hn
        have no : ¬ ky Z.2.1 v < ky Z.2.1 (Z.2.2.1 t) → GX12_offer_135 X t v.1 v.2.1 v.2.2.1 v.2.2.2 0 σ Q := fun hk => rX12_offer_135 fun _ => rX12_offer_136 fun _ => none0 (Or.inl fun q => hk q.2) 0 rfl
        refine ⟨fun u => yes (hl.1.mpr (Or.inr ⟨z, Or.inl (by omega)⟩)), fun u => ⟨by omega, by omega, fun u2 => no fun q => by have := hl.1.mp q; omega, fun u2 => ⟨by omega, by omega, by omega, ?_⟩⟩⟩
        have ec : v.2.1 = (Z.2.2.1 t).2.1 := by omega
        rw [show (((Z.2.2.1 t).2.2.1 : Int).toNat) = (Z.2.2.1 t).2.2.1 from rfl, show (((Z.2.2.1 t).2.2.2 : Int).toNat) = (Z.2.2.1 t).2.2.2 from rfl, show ((v.2.2.1 : Int).toNat) = v.2.2.1 from rfl, show ((v.2.2.2 : Int).toNat) = v.2.2.2 from rfl]
        have rk : ∀ x, x ∈ Z.2.1 → σ 89 x = (rkF Z.2.1 x : Int) := fun x hx => ((hs x (hZ.2.2.1 x ((hZ.2.1 x).mp hx))).2.2.2 ((hZ.2.1 x).mp hx)).1
        have pv := hv.2
        have pw := hW.2
        rw [← ec] at pw
        rcases prt_3 (v.2.1 / 8) with p | p | p
        · have a := pv.1 p
          have b := pw.1 p
          rw [a.1, a.2] at yes no
          rw [a.1, a.2, b.1, b.2] at hl
          rw [a.1, a.2, b.1, b.2]
          refine ⟨fun q => by omega, fun _ => ⟨by omega, by omega, fun q => absurd rfl q, fun _ => ⟨by omega, by omega, by omega, fun _ => no fun q => ?_, fun q => by omega⟩⟩⟩
          have := hl.1.mp q
          omega
        · have a := pv.2.1 p
          have b := pw.2.1 p
          rw [rk _ a.1, rk _ b.1, a.2, b.2]
          rw [a.2] at yes no
          rw [a.2, b.2] at hl
          refine ⟨fun q => yes (hl.1.mpr (Or.inr ⟨z, Or.inr ⟨ec, Or.inl (by omega)⟩⟩)), fun q => ⟨by omega, by omega, fun q2 => no fun q3 => ?_, fun q2 => ⟨by omega, by omega, by omega, fun _ => no fun q3 => ?_, fun q3 => by omega⟩⟩⟩
          · have := hl.1.mp q3
            omega
          · have e : v.2.2.1 = (Z.2.2.1 t).2.2.1 := by omega
            rw [e] at hl
            have := hl.1.mp q3
            omega
        · have a := pv.2.2 p
          have b := pw.2.2 p
          rw [rk _ a.1, rk _ b.1, rk _ a.2, rk _ b.2]
          refine ⟨fun q => yes (hl.1.mpr (Or.inr ⟨z, Or.inr ⟨ec, Or.inl (by omega)⟩⟩)), fun q => ⟨by omega, by omega, fun q2 => no fun q3 => ?_, fun q2 => ⟨by omega, by omega, by omega, fun q4 => no fun q3 => ?_, fun q3 => yes ?_⟩⟩⟩
          · have h3 := hl.1.mp q3
            have : rkF Z.2.1 v.2.2.1 = rkF Z.2.1 (Z.2.2.1 t).2.2.1 := by omega
            have := rkF_inj a.1 b.1 this
            omega
          · have h3 := hl.1.mp q3
            omega
          · have e : v.2.2.1 = (Z.2.2.1 t).2.2.1 := by omega
            exact hl.1.mpr (Or.inr ⟨z, Or.inr ⟨ec, Or.inr ⟨by rw [e], by omega⟩⟩⟩)
  have wet : v.1 < 1000 → v.1 < (Z.2.2.1 t).1 → t ∉ Z.1 → GX12_offer_27 X t v.1 v.2.1 v.2.2.1 v.2.2.2 σ Q := fun hc hk hn => rX12_offer_27 fun _ => rX12_offer_32 fun _ => ⟨by decide, fun _ => store 1 rfl hc (hl.1.mpr (Or.inl hk)) hn, fun z => absurd z (by decide)⟩
  refine eX12_offer (rX12_offer_0 fun _ => ⟨by omega, fun z => dry (Or.inl (by omega)), fun z => ⟨by omega, ?_⟩⟩)
  rw [show σ 84 ((t : Int).toNat) = _ from h84]
  refine ⟨fun y => ?_, fun y => ⟨by omega, by omega, fun u => dry (Or.inr ?_), fun u => ?_⟩⟩
  · have hc : ¬ (Z.2.2.1 t).1 < 1000 := by split at y <;> omega
    exact wet z (by omega) (fun m => hc (hZ.2.2.2.2 t m))
  · split at u
    · exact u
    · rename_i c
      rw [if_neg c] at y
      exact absurd rfl y
  · have hc : (Z.2.2.1 t).1 < 1000 := by
      split at u
      · assumption
      · omega
    rw [if_pos hc] at u
    exact wet z u fun m => by have := hD m; omega
