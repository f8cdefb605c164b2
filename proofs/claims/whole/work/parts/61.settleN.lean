theorem m_settle {X : Cx} {Z : AT} {σ : Sg} {Q : Int → Sg → Prop} {S : Sc} {s : Nat} (hM : atM S σ) (h : AI S Z) (hs : srM Z σ) (hsN : s < 2 ^ S.1) (hsD : s ∉ Z.1) (hsc : (Z.2.2.1 s).1 < 1000) (K : ∀ σ', (∀ c k, ¬ (88 ≤ c ∧ c ≤ 90) → σ' c k = σ c k) → srM (Z.1 ++ [s], insW Z.2.1 Z.2.2.1 s Z.2.1, Z.2.2.1, fun x => if x = s then lenW Z.2.2.2 (Z.2.2.1 s) else Z.2.2.2 x) σ' → Q 0 σ') : KX12_settle X s σ Q := by
  have h8 := hM.2.1
  have p8 := pow_lt8 h8
  have hZ := h.okZ h8
  obtain ⟨l1, l2, hR, hR', hsl, hcnt⟩ := AI_pos h8 h hsD hsc
  have fa : ((F_all S : Nat) : Int) = ((2 ^ S.1 : Nat) : Int) - 1 := by have := Nat.two_pow_pos S.1; unfold F_all; omega
  have hR2 : Z.2.1.length ≤ 256 := hZ.1
  have hl1 : l1.length ≤ 256 := by have : (l1 ++ l2).length ≤ 256 := hR ▸ hR2; rw [List.length_append] at this; omega
  have ltN := h.lt
  generalize hN : 2 ^ S.1 = N at *
  refine eX12_settle (rX12_settle_0 fun _ => ?_)
  have rk' : ∀ x, x ∈ Z.1 → rkF (l1 ++ s :: l2) x = (if rkF Z.2.1 x < l1.length then rkF Z.2.1 x else rkF Z.2.1 x + 1) := fun x hx => by
    rw [hR]; exact rk_ins (fun e => hsD (e ▸ hx))
  -- the ranks move
  have shift : ∀ d o : Nat, o + d = N → ∀ σ1 : Sg, (∀ c k, c ≠ 89 → σ1 c k = σ c k) → (∀ x, x < 256 → x ∈ Z.1 → x < o → σ1 89 x = (rkF (l1 ++ s :: l2) x : Int)) → (∀ x, x < 256 → x ∈ Z.1 → o ≤ x → σ1 89 x = (rkF Z.2.1 x : Int)) → GX12_settle_46 X s l1.length o σ1 Q := by
    intro d
    induction d with
    | zero =>
      intro o ho σ1 f1 a1 b1
      have ho : o = N := by omega
      have hM1 : atM S σ1 := hM.frame fun c k z => f1 c k (by omega)
      obtain ⟨w1, w2, w3⟩ := (hs s (by omega)).2.1 hsc
      have wy := (h.way s).1
      have b256 := shp_256 hZ wy
      have hpl := prt_le ((Z.2.2.1 s).2.1 / 8)
      have c120 := wy.1
      refine rX12_settle_46 fun _ => m_every hM1 fun _ => ⟨by omega, by omega, fun _ => ⟨by omega, by omega, by omega, by omega, ?_⟩, fun z => by omega⟩
      rw [show σ1 85 ((s : Int).toNat) = ((Z.2.2.1 s).2.1 : Int) by rw [show ((s : Int).toNat) = s from rfl, f1 85 s (by decide)]; exact w1, zdiv8 _ c120, show ((s : Int).toNat) = s from rfl]
      have fin : ∀ (v : Int) (σ2 : Sg), σ2 = up2 (up2 (up2 σ1 89 s l1.length) 90 s 1) 88 s v → v = (lenW Z.2.2.2 (Z.2.2.1 s) : Int) → Q 0 σ2 := by
        intro v σ2 e2 hv
        subst e2
        refine K _ (fun c k y => by rw [up2_nc _ _ (by omega), up2_nc _ _ (by omega), up2_nc _ _ (by omega)]; exact f1 c k (by omega)) fun x hx => ?_
        have q := hs x hx
        show _ ∧ (_ → _) ∧ _ = (if x ∈ Z.1 ++ [s] then (1 : Int) else 0) ∧ (x ∈ Z.1 ++ [s] → _ = (rkF (insW Z.2.1 Z.2.2.1 s Z.2.1) x : Int) ∧ _ = ((if x = s then lenW Z.2.2.2 (Z.2.2.1 s) else Z.2.2.2 x : Nat) : Int))
        rw [hR']
        rw [up2_nc _ _ (show (84 : Nat) ≠ 88 by decide), up2_nc _ _ (show (84 : Nat) ≠ 90 by decide), up2_nc _ _ (show (84 : Nat) ≠ 89 by decide), up2_nc _ _ (show (85 : Nat) ≠ 88 by decide), up2_nc _ _ (show (85 : Nat) ≠ 90 by decide), up2_nc _ _ (show (85 : Nat) ≠ 89 by decide), up2_nc _ _ (show (86 : Nat) ≠ 88 by decide), up2_nc _ _ (show (86 : Nat) ≠ 90 by decide), up2_nc _ _ (show (86 : Nat) ≠ 89 by decide), up2_nc _ _ (show (87 : Nat) ≠ 88 by decide), up2_nc _ _ (show (87 : Nat) ≠ 90 by decide), up2_nc _ _ (show (87 : Nat) ≠ 89 by decide), up2_nc _ _ (show (90 : Nat) ≠ 88 by decide), up2_nc _ _ (show (89 : Nat) ≠ 88 by decide), up2_nc _ _ (show (89 : Nat) ≠ 90 by decide), f1 84 x (by decide), f1 85 x (by decide), f1 86 x (by decide), f1 87 x (by decide)]
        refine ⟨q.1, q.2.1, ?_, fun hm => ?_⟩
        · by_cases e : x = s
          · rw [e, up2_s, if_pos (by simp)]
          · rw [up2_nk _ _ e, up2_nc _ _ (by decide), f1 90 x (by decide), q.2.2.1]
            by_cases m : x ∈ Z.1
            · rw [if_pos m, if_pos (by simp [m])]
            · rw [if_neg m, if_neg (by simp [m, e])]
        · by_cases e : x = s
          · rw [e, up2_s, up2_s, if_pos rfl, rk_ins_s (fun z => hsl (List.mem_append.mpr (Or.inl z)))]
            exact ⟨rfl, hv⟩
          · have m : x ∈ Z.1 := by
              rcases List.mem_append.mp hm with m | m
              · exact m
              · exact absurd (List.mem_singleton.mp m) e
            have := ltN x m
            rw [up2_nk _ _ e, up2_nk _ _ e, up2_nc _ _ (show (88 : Nat) ≠ 90 by decide), up2_nc _ _ (show (88 : Nat) ≠ 89 by decide), if_neg e, f1 88 x (by decide)]
            exact ⟨a1 x hx m (by omega), (q.2.2.2 m).2⟩
      have lg : ∀ x, x ∈ Z.1 → up2 (up2 σ1 89 s l1.length) 90 s 1 88 x = (Z.2.2.2 x : Int) := fun x hx => by
        rw [up2_nc _ _ (by decide), up2_nc _ _ (by decide), f1 88 x (by decide)]
        exact ((hs x (hZ.2.2.1 x hx)).2.2.2 hx).2
      have g86 : up2 (up2 σ1 89 s l1.length) 90 s 1 86 s = ((Z.2.2.1 s).2.2.1 : Int) := by rw [up2_nc _ _ (by decide), up2_nc _ _ (by decide), f1 86 s (by decide)]; exact w2
      have g87 : up2 (up2 σ1 89 s l1.length) 90 s 1 87 s = ((Z.2.2.1 s).2.2.2 : Int) := by rw [up2_nc _ _ (by decide), up2_nc _ _ (by decide), f1 87 s (by decide)]; exact w3
      generalize hσ2 : up2 (up2 σ1 89 s l1.length) 90 s 1 = σ2 at *
      have small : ∀ x, x ∈ Z.1 → Z.2.2.2 x < 1000 := fun x hx => by have := (h.lng x hx).2.1; have := h.fin x hx; omega
      have pD : ∀ w : WT, shpT Z.2.1 w → (0 < prt (w.2.1 / 8) → w.2.2.1 ∈ Z.1) ∧ (1 < prt (w.2.1 / 8) → w.2.2.2 ∈ Z.1) := fun w hw => by
        rcases prt_3 (w.2.1 / 8) with p | p | p
        · exact ⟨fun z => by omega, fun z => by omega⟩
        · exact ⟨fun _ => (h.mem _).mp (hw.2.2.1 p).1, fun z => by omega⟩
        · exact ⟨fun _ => (h.mem _).mp (hw.2.2.2 p).1, fun _ => (h.mem _).mp (hw.2.2.2 p).2⟩
      have pd := pD _ wy
      have end' : ∀ s0 : Int, s0 = (if 0 < prt ((Z.2.2.1 s).2.1 / 8) then (Z.2.2.2 (Z.2.2.1 s).2.2.1 : Int) else 0) → GX12_settle_145 X s l1.length (((Z.2.2.1 s).2.1 / 8 : Nat) : Int) s0 1 s σ2 Q := by
        intro s0 hs0
        have s0b : 0 ≤ s0 ∧ s0 < 1000 := by
          rw [hs0]
          split
          · rename_i c
            have := small _ (pd.1 c); omega
          · omega
        refine rX12_settle_145 fun _ => m_needs (by omega) fun _ => ⟨by omega, fun z => ⟨by omega, by omega, fin _ _ rfl ?_⟩, fun z => ⟨by omega, ?_⟩⟩
        · unfold lenW
          rw [hs0, if_neg (show ¬ 1 < prt ((Z.2.2.1 s).2.1 / 8) by omega)]
          split <;> omega
        · have := small _ (pd.2 (by omega))
          rw [show σ2 87 ((s : Int).toNat) = _ from g87, show (((Z.2.2.1 s).2.2.2 : Int).toNat) = (Z.2.2.1 s).2.2.2 from rfl, lg _ (pd.2 (by omega))]
          refine ⟨by omega, by omega, by omega, fin _ _ rfl ?_⟩
          unfold lenW
          rw [hs0, if_pos (show 1 < prt ((Z.2.2.1 s).2.1 / 8) by omega)]
          split <;> omega
      refine m_needs (by omega) fun _ => ⟨by omega, fun z => end' 0 (by rw [if_neg (by omega)]), fun z => ⟨by omega, ?_⟩⟩
      rw [g86, show (((Z.2.2.1 s).2.2.1 : Int).toNat) = (Z.2.2.1 s).2.2.1 from rfl, lg _ (pd.1 (by omega))]
      exact ⟨by omega, end' _ (by rw [if_pos (by omega)])⟩
    | succ d ih =>
      intro o ho σ1 f1 a1 b1
      have hM1 : atM S σ1 := hM.frame fun c k z => f1 c k (by omega)
      have q := hs o (by omega)
      have go : ∀ s0 : Int, (o ∈ Z.1 → s0 = (if rkF Z.2.1 o < l1.length then 0 else 1)) → inI (σ1 89 o + s0) → GX12_settle_85 X s l1.length o s0 (σ1 89 o) o σ1 Q := by
        intro s0 hs0 hi
        refine rX12_settle_85 fun _ => ⟨by omega, hi, ih (o + 1) (by omega) _ (fun c k z => by rw [up2_nc _ _ z]; exact f1 c k z) (fun x hx m hxo => ?_) (fun x hx m hxo => by rw [up2_nk _ _ (show x ≠ ((o : Int).toNat) by show x ≠ o; omega)]; exact b1 x hx m (by omega))⟩
        rw [show ((o : Int).toNat) = o from rfl]
        by_cases e : x = o
        · subst e
          rw [up2_s, b1 x hx m (Nat.le_refl _), hs0 m, rk' x m]
          split <;> omega
        · rw [up2_nk _ _ e]; exact a1 x hx m (by omega)
      refine rX12_settle_46 fun hRn => m_every hM1 fun _ => ⟨by omega, by omega, fun z => by omega, fun _ => ⟨by omega, by omega, ?_⟩⟩
      have r89 := hRn.1 89 o (by omega)
      rw [show σ1 90 ((o : Int).toNat) = (if o ∈ Z.1 then 1 else 0 : Int) by rw [show ((o : Int).toNat) = o from rfl, f1 90 o (by decide)]; exact q.2.2.1, show ((o : Int).toNat) = o from rfl]
      by_cases m : o ∈ Z.1
      · rw [if_pos m]
        have e89 := b1 o (by omega) m (Nat.le_refl _)
        have := rkF_le Z.2.1 o
        refine ⟨fun z => absurd z (by decide), fun _ => ⟨by omega, by omega, fun z => rX12_settle_84 fun _ => go 0 (fun _ => ?_) (by omega), fun z => go 1 (fun _ => ?_) (by omega)⟩⟩
        · rw [if_pos (by omega)]
        · rw [if_neg (by omega)]
      · rw [if_neg m]
        exact ⟨fun _ => rX12_settle_84 fun _ => go 0 (fun y => absurd y m) (by omega), fun z => absurd rfl z⟩
  have loop : ∀ d o : Nat, o + d = N → GX12_settle_4 X s (cnt (fun x => decide (x ∈ Z.1) && decide (k2 Z.2.1 (Z.2.2.1 x) < k2 Z.2.1 (Z.2.2.1 s))) o : Nat) o σ Q := by
    intro d
    induction d with
    | zero =>
      intro o ho
      have ho : o = N := by omega
      refine rX12_settle_4 fun _ => m_every hM fun _ => ⟨by omega, by omega, fun _ => ?_, fun z => by omega⟩
      rw [ho, ← hcnt]
      exact shift N 0 (by omega) σ (fun _ _ _ => rfl) (fun x _ _ hx => by omega) (fun x hx m _ => ((hs x hx).2.2.2 m).1)
    | succ d ih =>
      intro o ho
      have nx := ih (o + 1) (by omega)
      have ce : cnt (fun x => decide (x ∈ Z.1) && decide (k2 Z.2.1 (Z.2.2.1 x) < k2 Z.2.1 (Z.2.2.1 s))) (o + 1) = cnt (fun x => decide (x ∈ Z.1) && decide (k2 Z.2.1 (Z.2.2.1 x) < k2 Z.2.1 (Z.2.2.1 s))) o + (if (decide (o ∈ Z.1) && decide (k2 Z.2.1 (Z.2.2.1 o) < k2 Z.2.1 (Z.2.2.1 s))) then 1 else 0) := rfl
      rw [ce] at nx
      have q := hs o (by omega)
      have no : ¬ (decide (o ∈ Z.1) && decide (k2 Z.2.1 (Z.2.2.1 o) < k2 Z.2.1 (Z.2.2.1 s))) = true → ∀ v : Int, v = (cnt (fun x => decide (x ∈ Z.1) && decide (k2 Z.2.1 (Z.2.2.1 x) < k2 Z.2.1 (Z.2.2.1 s))) o : Nat) → GX12_settle_35 X s v o v σ Q := fun y v hv => by
        rw [if_neg y] at nx
        subst hv
        exact rX12_settle_35 fun _ => rX12_settle_36 fun _ => nx
      refine rX12_settle_4 fun _ => m_every hM fun _ => ⟨by omega, by omega, fun z => by omega, fun _ => ⟨by omega, ?_⟩⟩
      rw [show σ 90 ((o : Int).toNat) = _ from q.2.2.1]
      by_cases m : o ∈ Z.1
      · rw [if_pos m]
        refine ⟨fun z => absurd z (by decide), fun _ => m_isAhead hZ hs (by omega) (by omega) (h.fin o m) hsc fun _ => ?_⟩
        by_cases a : k2 Z.2.1 (Z.2.2.1 o) < k2 Z.2.1 (Z.2.2.1 s)
        · rw [if_pos a]
          rw [if_pos (by simp [m, a])] at nx
          exact ⟨by decide, fun z => absurd z (by decide), fun _ => rX12_settle_36 fun _ => nx⟩
        · rw [if_neg a]
          exact ⟨by decide, fun _ => no (by simp [a]) _ rfl, fun z => absurd rfl z⟩
      · rw [if_neg m]
        exact ⟨fun _ => no (by simp [m]) _ rfl, fun z => absurd rfl z⟩
  exact loop N 0 (by omega)
