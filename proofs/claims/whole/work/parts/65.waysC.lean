/-! the class's table of ways -/
def wyI (w : WT) : Int := ((w.2.1 * 65536 + w.2.2.1 * 256 + w.2.2.2 : Nat) : Int)
theorem and255 (c : Nat) : c &&& 255 = c % 256 := Nat.and_two_pow_sub_one_eq_mod c 8
theorem z255 {c : Nat} (h : c < 2 ^ 31) : zand (c : Int) 255 = ((c % 256 : Nat) : Int) := by
  rw [show (255 : Int) = ((255 : Nat) : Int) from rfl, zand_nat h (by decide), and255]
theorem zshr_c {c : Nat} (k : Nat) (h : c < 2 ^ 31) (hk : k < 32) : zshr (c : Int) k = ((c / 2 ^ k : Nat) : Int) := by
  rw [zshr_nat h hk, Nat.shiftRight_eq_div_pow]
theorem wy_parts {w : WT} (hc : w.2.1 < 120) (ha : w.2.2.1 < 256) (hb : w.2.2.2 < 256) : zshr (wyI w) 16 = (w.2.1 : Int) ∧ zand (zshr (wyI w) 8) 255 = (w.2.2.1 : Int) ∧ zand (wyI w) 255 = (w.2.2.2 : Int) ∧ zshr (wyI w) 19 = ((w.2.1 / 8 : Nat) : Int) ∧ inI (wyI w) := by
  unfold wyI
  have hl : w.2.1 * 65536 + w.2.2.1 * 256 + w.2.2.2 < 2 ^ 31 := by omega
  refine ⟨?_, ?_, ?_, ?_, by omega⟩
  · rw [show (16 : Int) = ((16 : Nat) : Int) from rfl, zshr_c 16 hl (by decide)]; omega
  · rw [show (8 : Int) = ((8 : Nat) : Int) from rfl, zshr_c 8 hl (by decide), z255 (by omega)]; omega
  · rw [z255 hl]; omega
  · rw [show (19 : Int) = ((19 : Nat) : Int) from rfl, zshr_c 19 hl (by decide)]; omega
theorem shl16 : ∀ c : Nat, c < 120 → zshl (c : Int) 16 = ((c * 65536 : Nat) : Int) := by decide +kernel
theorem shl19 : ∀ c : Nat, c < 15 → zshl (c : Int) 19 = ((c * 524288 : Nat) : Int) := by decide +kernel
theorem shl8 : ∀ c : Nat, c < 256 → zshl (c : Int) 8 = ((c * 256 : Nat) : Int) := by decide +kernel
theorem or_add {a b k : Nat} (h : b < 2 ^ k) : a * 2 ^ k ||| b = a * 2 ^ k + b := by
  rw [Nat.mul_comm]; exact (Nat.two_pow_add_eq_or_of_lt h a).symm
theorem wy_named {c : Nat} {p : Int} (hc : c < 120) : zshl (c : Int) 16 = wyI (p, c, 0, 0) := by
  rw [shl16 c hc]
  unfold wyI
  show _ = ((c * 65536 + 0 * 256 + 0 : Nat) : Int)
  omega
theorem wy_turn {w s : Nat} {p : Int} (hw : w < 15) (hs : s < 256) : zor (zshl (w : Int) 19) (zshl (s : Int) 8) = wyI (p, 8 * w, s, 0) := by
  rw [shl19 w hw, shl8 s hs, zor_nat (by omega) (by omega)]
  have e := or_add (a := w) (b := s * 256) (k := 19) (by omega)
  rw [show w * 524288 = w * 2 ^ 19 by omega, e]
  unfold wyI
  show _ = ((8 * w * 65536 + s * 256 + 0 : Nat) : Int)
  omega
theorem wy_join {w a b : Nat} {p : Int} (hw : w < 15) (ha : a < 256) (hb : b < 256) : zor (zor (zshl (w : Int) 19) (zshl (a : Int) 8)) (b : Int) = wyI (p, 8 * w, a, b) := by
  rw [wy_turn (p := 0) hw ha]
  show zor ((8 * w * 65536 + a * 256 + 0 : Nat) : Int) (b : Int) = _
  rw [zor_nat (by omega) (by omega)]
  have e := or_add (a := 2048 * w + a) (b := b) (k := 8) (by omega)
  rw [show 8 * w * 65536 + a * 256 + 0 = (2048 * w + a) * 2 ^ 8 by omega, e]
  unfold wyI
  show _ = ((8 * w * 65536 + a * 256 + b : Nat) : Int)
  omega
def srC (c0 : Nat) (Z : AT) (σ : Sg) : Prop := (∀ x, x < 256 → (x ∈ Z.1 → σ (c0 + 2) x = (Z.2.2.2 x : Int) ∧ σ (c0 + 4) x = (rkF Z.2.1 x : Int)) ∧ (x ∉ Z.1 → σ (c0 + 4) x = -1) ∧ σ (c0 + 1) x = (Z.2.2.1 x).1 ∧ ((Z.2.2.1 x).1 < 1000 → σ (c0 + 3) x = wyI (Z.2.2.1 x))) ∧ (∀ i, i < Z.2.1.length → σ (c0 + 5) i = ((Z.2.1.getD i 0 : Nat) : Int)) ∧ (∀ i, i < Z.1.length → σ (c0 + 6) i = ((Z.1.getD i 0 : Nat) : Int)) ∧ σ c0 6 = (Z.1.length : Int)
def isW (c0 : Nat) : Prop := c0 = 42 ∨ c0 = 50
theorem isW.way {c0 : Nat} (h : isW c0) : isWay c0 := by
  rcases h with rfl | rfl
  · exact isWay_42
  · exact isWay_50
theorem s_isAhead {X : Cx} {c0 : Nat} {R R0 : List Nat} {σ : Sg} {Q : Int → Sg → Prop} {u v : WT} (hw : isW c0) (hR : R.length ≤ 256) (h256 : ∀ x, x ∈ R0 → x < 256) (hr : ∀ x, x ∈ R0 → σ (c0 + 4) x = (rkF R x : Int)) (hu : shpT R0 u) (hv : shpT R0 v) (K : Q (if k2 R u < k2 R v then 1 else 0) σ) : KX9_isAhead X c0 (wyI u) (wyI v) σ Q := by
  have s256 : ∀ v : WT, shpT R0 v → v.2.2.1 < 256 ∧ v.2.2.2 < 256 := fun v hv => by
    rcases prt_3 (v.2.1 / 8) with p | p | p
    · have := hv.2.1 p; omega
    · have := hv.2.2.1 p; exact ⟨h256 _ this.1, by omega⟩
    · have := hv.2.2.2 p; exact ⟨h256 _ this.1, h256 _ this.2⟩
  have lx := k2_lex (u := u) (v := v) hR hu.1 hv.1
  obtain ⟨ua, ub⟩ := s256 u hu
  obtain ⟨va, vb⟩ := s256 v hv
  obtain ⟨u1, u2, u3, -, -⟩ := wy_parts hu.1 ua ub
  obtain ⟨v1, v2, v3, -, -⟩ := wy_parts hv.1 va vb
  have yes : k2 R u < k2 R v → Q 1 σ := fun h => by rw [if_pos h] at K; exact K
  have no : ¬ k2 R u < k2 R v → Q 0 σ := fun h => by rw [if_neg h] at K; exact K
  refine eX9_isAhead (rX9_isAhead_0 hw.way fun _ => ?_)
  rw [u1, u2, u3, v1, v2, v3]
  refine ⟨fun z => ⟨by omega, by omega, ?_⟩, fun z => ⟨fun y => no fun q => ?_, fun y => yes (lx.mpr (Or.inl (by omega)))⟩⟩
  · have ec : u.2.1 = v.2.1 := by omega
    rw [show ((u.2.2.1 : Int).toNat) = u.2.2.1 from rfl, show ((u.2.2.2 : Int).toNat) = u.2.2.2 from rfl, show ((v.2.2.1 : Int).toNat) = v.2.2.1 from rfl, show ((v.2.2.2 : Int).toNat) = v.2.2.2 from rfl]
    have pv := hu.2
    have pw := hv.2
    rw [← ec] at pw
    rcases prt_3 (u.2.1 / 8) with p | p | p
    · have a := pv.1 p
      have b := pw.1 p
      rw [a.1, a.2, b.1, b.2] at lx
      rw [a.1, a.2, b.1, b.2]
      refine ⟨fun _ => ⟨by omega, by omega, fun _ => no fun q => ?_, fun q => by omega⟩, fun q => absurd rfl q⟩
      have := lx.mp q
      omega
    · have a := pv.2.1 p
      have b := pw.2.1 p
      rw [hr _ a.1, hr _ b.1, a.2, b.2]
      rw [a.2, b.2] at lx
      refine ⟨fun q => ⟨by omega, by omega, fun _ => no fun q3 => ?_, fun q3 => by omega⟩, fun q => ⟨fun q2 => no fun q3 => ?_, fun q2 => yes (lx.mpr (Or.inr ⟨ec, Or.inl (by omega)⟩))⟩⟩
      · have := lx.mp q3; omega
      · have := lx.mp q3; omega
    · have a := pv.2.2 p
      have b := pw.2.2 p
      rw [hr _ a.1, hr _ b.1, hr _ a.2, hr _ b.2]
      refine ⟨fun q => ⟨by omega, by omega, fun q2 => no fun q3 => ?_, fun q2 => yes (lx.mpr (Or.inr ⟨ec, Or.inr ⟨by omega, by omega⟩⟩))⟩, fun q => ⟨fun q2 => no fun q3 => ?_, fun q2 => yes (lx.mpr (Or.inr ⟨ec, Or.inl (by omega)⟩))⟩⟩
      · have := lx.mp q3; omega
      · have := lx.mp q3; omega
  · have := lx.mp q; omega
theorem ky_k2 {R : List Nat} {u v : WT} (hR : R.length ≤ 256) (hu : u.2.1 < 120) (hv : v.2.1 < 120) (h : u.1 = v.1) : ky R u < ky R v ↔ k2 R u < k2 R v := by
  rw [(ky_lex hR hu hv).1, k2_lex hR hu hv]
  constructor
  · rintro (q | q)
    · omega
    · exact q.2
  · exact fun q => Or.inr ⟨h, q⟩
theorem s_offer {X : Cx} {c0 : Nat} {Z : AT} {σ : Sg} {Q : Int → Sg → Prop} {t : Nat} {v : WT} (hw : isW c0) (hZ : okZ Z) (hs : srC c0 Z σ) (ht : t < 256) (hv : shpT Z.2.1 v) (hv1 : 1 ≤ v.1 ∧ v.1 < 100000) (K : ∀ σ', (∀ c k, c ≠ c0 + 1 → c ≠ c0 + 3 → σ' c k = σ c k) → srC c0 (putW Z (t, v)) σ' → Q 0 σ') : KX9_offer X c0 t v.1 (wyI v) σ Q := by
  obtain ⟨hx1, hx2, hx3, hx4⟩ := hs
  obtain ⟨hd, hn, hc, hy⟩ := hx1 t ht
  have hs : srC c0 Z σ := ⟨hx1, hx2, hx3, hx4⟩
  obtain ⟨hW, hW1, hW2⟩ := hZ.2.2.2.1 t
  have hl := ky_lex (u := v) (v := Z.2.2.1 t) hZ.1 hv.1 hW.1
  have v256 := shp_256 hZ hv
  have wp := wy_parts hv.1 v256.1 v256.2
  have keep : ¬ (v.1 < 1000 ∧ ky Z.2.1 v < ky Z.2.1 (Z.2.2.1 t)) ∨ t ∈ Z.1 → Q 0 σ := fun y => K σ (fun _ _ _ _ => rfl) (by rw [putW_no (f := (t, v)) y.symm]; exact hs)
  have store : v.1 < 1000 → ky Z.2.1 v < ky Z.2.1 (Z.2.2.1 t) → t ∉ Z.1 → GX9_offer_63 X c0 t v.1 (wyI v) t σ Q := by
    intro hc hk hn
    refine rX9_offer_63 hw.way fun _ => ⟨by omega, by omega, by omega, wp.2.2.2.2, ?_⟩
    rw [show ((t : Int).toNat) = t from rfl]
    refine K _ (fun c k y1 y3 => by rw [up2_nc _ _ y3, up2_nc _ _ y1]) ⟨fun x hx => ?_, fun i hi => ?_, fun i hi => ?_, ?_⟩
    · have q := hx1 x hx
      rw [up2_nc _ _ (show c0 + 2 ≠ c0 + 3 by omega), up2_nc _ _ (show c0 + 2 ≠ c0 + 1 by omega), up2_nc _ _ (show c0 + 4 ≠ c0 + 3 by omega), up2_nc _ _ (show c0 + 4 ≠ c0 + 1 by omega), up2_nc _ _ (show c0 + 1 ≠ c0 + 3 by omega)]
      refine ⟨q.1, q.2.1, ?_⟩
      by_cases e : x = t
      · have ew : (putW Z (t, v)).2.2.1 x = v := by
          show appW _ _ _ _ x = v
          unfold appW
          rw [if_pos ⟨e, by rw [e]; exact hn⟩]
          unfold updW
          rw [e, if_pos ⟨hc, hk⟩]
        rw [ew, e, up2_s, up2_s]
        exact ⟨rfl, fun _ => rfl⟩
      · have ew : (putW Z (t, v)).2.2.1 x = Z.2.2.1 x := if_neg (fun z => e z.1)
        rw [ew, up2_nk _ _ e, up2_nk _ _ e, up2_nc _ _ (show c0 + 3 ≠ c0 + 1 by omega)]
        exact q.2.2
    · rw [up2_nc _ _ (by omega), up2_nc _ _ (by omega)]; exact hx2 i hi
    · rw [up2_nc _ _ (by omega), up2_nc _ _ (by omega)]; exact hx3 i hi
    · rw [up2_nc _ _ (by omega), up2_nc _ _ (by omega)]; exact hx4
  refine eX9_offer (rX9_offer_0 hw.way fun _ => ?_)
  rw [z255 (show t < 2 ^ 31 by omega), Nat.mod_eq_of_lt ht, show ((t : Int).toNat) = t from rfl, hc]
  refine ⟨by omega, fun z => keep (Or.inr ?_), fun z => ⟨by omega, by omega, fun y => keep (Or.inl fun q => ?_), fun y => ⟨by omega, fun a => ⟨by omega, by omega, fun b => ?_, fun b => ⟨by omega, ?_⟩⟩, fun a => keep (Or.inl fun q => by omega)⟩⟩⟩
  · exact Decidable.byContradiction fun m => z (hn m)
  · have := hl.1.mp q.2; omega
  · have m : t ∉ Z.1 := fun m => by have := (hd m).2; omega
    exact store a (hl.1.mpr (Or.inl b)) m
  · have m : t ∉ Z.1 := fun m => by have := (hd m).2; omega
    rw [hy (by omega)]
    have e := ky_k2 hZ.1 hv.1 hW.1 (show v.1 = (Z.2.2.1 t).1 by omega)
    refine s_isAhead hw hZ.1 (fun x hx => hZ.2.2.1 x ((hZ.2.1 x).mp hx)) (fun x hx => ((hx1 x (hZ.2.2.1 x ((hZ.2.1 x).mp hx))).1 ((hZ.2.1 x).mp hx)).2) hv hW fun _ => ?_
    by_cases c : k2 Z.2.1 v < k2 Z.2.1 (Z.2.2.1 t)
    · rw [if_pos c]
      exact ⟨by decide, fun q => absurd q (by decide), fun _ => store a (e.mpr c) m⟩
    · rw [if_neg c]
      exact ⟨by decide, fun _ => keep (Or.inl fun q => c (e.mp q.2)), fun q => absurd rfl q⟩
