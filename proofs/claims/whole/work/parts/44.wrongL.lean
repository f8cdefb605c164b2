/-! wrong -/
theorem bestT_256 (T : Nat → Int) : bestT T 256 < 256 := by
  show (if T (bestT T 255) < T 255 then 255 else bestT T 255) < 256
  have := bestT_lt T 255
  split <;> omega
def wrEnd (R : TR) (w : Int) : Int := if w = 2 then R.2 else if R.2 = 0 then -1 else if w = 0 then (bestT R.1 256 : Int) else R.1 (bestT R.1 256)
def opWrong (A : AS) (w : Int) : Int × AS := (if 0 ≤ w ∧ w < 3 then (match prsT A.2.2.1.1 A.2.2.1.2 with | .inl _ => -4 | .inr L => wrEnd (wrA A.1 L L.length zeroR) w) else -3, A)
theorem c_wrong {CK : CKt} {X : Cx} {A : AS} {m : Nat} {σ : Sg} {w : Int} (hCK : okCK CK) (h : InvC CK A m σ) (hA : okA A) (hi : inI w) : doesC CK m (opWrong A w) σ (KX11_wrong X w σ) := by
  intro Q K
  unfold opWrong at K
  refine eX11_wrong (rX11_wrong_0 fun _ => s_isWithin hi (by decide) fun _ => ?_)
  by_cases q : 0 ≤ w ∧ w < 3
  · rw [if_pos q] at K ⊢
    refine ⟨by decide, fun _ => s_read h.2.2.2.2.1 (fun x σ' hf e _ => ?_) (fun L σ' hf hL e _ => ?_), fun z => absurd z (by decide)⟩
    · rw [e] at K
      have := prsT_in e
      have := h.2.2.2.2.1.2.1
      exact ⟨by omega, fun z => by omega, fun _ => K σ' (fun c k z => hf c k (by omega) (by omega) (by omega)) (h.frame hCK hA.2.2.1.1 (frT_scr hf)).more⟩
    · rw [e] at K
      have h' := h.frame hCK hA.2.2.1.1 (frT_scr hf)
      refine ⟨by decide, fun _ => s_hear h'.1 hA.1 hL (prsT_ok e).1 (prsT_ok e).2 fun σ2 f1 f2 f3 f4 _ => ?_, fun z => absurd rfl z⟩
      have k := K σ2 (fun c k z => (f1 c k (by omega) (by omega) (by omega) (by omega)).trans (hf c k (by omega) (by omega) (by omega))) (h'.frame hCK hA.2.2.1.1 fun c k z => f1 c k (by unfold scr at z; omega) (by unfold scr at z; omega) (by unfold scr at z; omega) (by unfold scr at z; omega)).more
      clear K
      have hb := bestT_256 (wrA A.1 L L.length zeroR).1
      simp only [] at k
      unfold wrEnd at k
      rw [f3, f4]
      refine ⟨hi, fun z2 => ⟨fun z0 => ⟨hi, fun z1 => ⟨by omega, ?_⟩, fun z1 => ?_⟩, fun z0 => ?_⟩, fun z2 => ?_⟩
      · rw [show (((bestT (wrA A.1 L L.length zeroR).1 256 : Nat) : Int).toNat) = bestT (wrA A.1 L L.length zeroR).1 256 from rfl, f2 _ hb]
        rw [if_neg z2, if_neg z0, if_neg z1] at k; exact k
      · rw [if_neg z2, if_neg z0, if_pos z1] at k; exact k
      · rw [if_neg z2, if_pos z0] at k; exact k
      · rw [if_pos z2] at k; exact k
  · rw [if_neg q] at K ⊢
    exact ⟨by decide, fun z => absurd rfl z, fun _ => K σ (fun _ _ _ => rfl) h.more⟩
theorem m_wrong {X : Cx} {A : AS} {σ : Sg} {w : Int} (h : InvM A σ) (hA : okA A) (hi : inI w) : doesM (opWrong A w) σ (KX12_wrong X w σ) := by
  intro Q K
  unfold opWrong at K
  refine eX12_wrong (rX12_wrong_0 fun _ => m_in hi (by decide) (by decide) fun _ => ?_)
  by_cases q : 0 ≤ w ∧ w < 3
  · rw [if_pos q] at K
    rw [if_pos (show 0 ≤ w ∧ w ≤ 2 by omega)]
    refine ⟨by decide, fun _ => m_isRead h.2.2.2.1 (fun x σ' hf e hx _ => ?_) (fun L σ' hf hL e _ => ?_), fun z => absurd z (by decide)⟩
    · rw [e] at K
      exact ⟨by decide, fun z => absurd rfl z, fun _ => K σ' (fun c k z => hf c k (by omega) (by omega) (by omega)) (h.frameS (frR_scr hf))⟩
    · rw [e] at K
      have h' := h.frameS (frR_scr hf)
      have hgd := prsT_good e
      have hwf := (prsT_ok e).1
      have hok := (prsT_ok e).2
      have h24 := hL.2.1
      refine ⟨by decide, fun _ => ?_, fun z => absurd z (by decide)⟩
      have zero : ∀ d j : Nat, j + d = 256 → ∀ σ1 : Sg, (∀ c k, c ≠ 97 → σ1 c k = σ' c k) → (∀ s, s < j → σ1 97 s = 0) → (∀ σ2, stWM A.1 L σ' zeroR σ2 → GX12_wrong_51 X w 0 σ2 Q) → GX12_wrong_24 X w j σ1 Q := by
        intro d
        induction d with
        | zero =>
          intro j hj σ1 f1 f2 k
          have : j = 256 := by omega
          subst this
          exact rX12_wrong_24 fun _ => ⟨by decide, fun _ => k _ ⟨fun c k a b d => by rw [up2_a _ _ d]; exact f1 c k b, fun s hs => by rw [up2_nc _ _ (by decide)]; exact f2 s hs, up2_s _ _ _ _⟩, fun z => absurd z (by decide)⟩
        | succ d ih =>
          intro j hj σ1 f1 f2 k
          refine rX12_wrong_24 fun _ => ⟨by omega, fun z => by omega, fun _ => ⟨by omega, ih (j + 1) (by omega) _ (fun c k z => by rw [up2_nc _ _ z]; exact f1 c k z) (fun s hs => ?_) k⟩⟩
          rw [show ((j : Int).toNat) = j from rfl]
          by_cases q : s = j
          · rw [q, up2_s]
          · rw [up2_nk _ _ q]; exact f2 s (by omega)
      have best : ∀ (R : TR) (σ1 : Sg), bndR R 900 → stWM A.1 L σ' R σ1 → Q (wrEnd R w) σ1 → GX12_wrong_183 X w 0 0 σ1 Q := by
        intro R σ1 hb hs k
        unfold wrEnd at k
        have loop : ∀ d j : Nat, j + d = 256 → GX12_wrong_183 X w (bestT R.1 j : Nat) j σ1 Q := by
          intro d
          induction d with
          | zero =>
            intro j hj
            have : j = 256 := by omega
            subst this
            have hb := bestT_256 R.1
            refine rX12_wrong_183 fun _ => ⟨by decide, fun _ => ?_, fun z => absurd z (by decide)⟩
            rw [hs.2.2]
            refine ⟨hi, fun z2 => ⟨fun z0 => ⟨hi, fun z1 => ⟨by omega, ?_⟩, fun z1 => ?_⟩, fun z0 => ?_⟩, fun z2 => ?_⟩
            · rw [show (((bestT R.1 256 : Nat) : Int).toNat) = bestT R.1 256 from rfl, hs.2.1 _ hb]
              rw [if_neg z2, if_neg z0, if_neg z1] at k; exact k
            · rw [if_neg z2, if_neg z0, if_pos z1] at k; exact k
            · rw [if_neg z2, if_pos z0] at k; exact k
            · rw [if_pos z2] at k; exact k
          | succ d ih =>
            intro j hj
            have hbl := bestT_lt R.1 j
            refine rX12_wrong_183 fun _ => ⟨by omega, fun z => by omega, fun _ => ⟨by omega, by omega, ?_⟩⟩
            rw [show ((j : Int).toNat) = j from rfl, show (((bestT R.1 j : Nat) : Int).toNat) = bestT R.1 j from rfl, hs.2.1 _ (by omega), hs.2.1 _ (by omega)]
            have nx := ih (j + 1) (by omega)
            have e : bestT R.1 (j + 1) = (if R.1 (bestT R.1 j) < R.1 j then j else bestT R.1 j) := rfl
            rw [e] at nx
            refine ⟨fun z => rX12_wrong_210 fun _ => ?_, fun z => rX12_wrong_210 fun _ => ?_⟩
            · rw [if_neg (by omega)] at nx; exact nx
            · rw [if_pos z] at nx; exact nx
        exact loop 256 0 rfl
      have outer : ∀ d i : Nat, i + d = L.length → ∀ (R : TR) (σ1 : Sg), bndR R (4 * i) → stWM A.1 L σ' R σ1 → (∀ σ2, stWM A.1 L σ' (wrA A.1 L d R) σ2 → bndR (wrA A.1 L d R) 900 → GX12_wrong_183 X w 0 0 σ2 Q) → GX12_wrong_51 X w i σ1 Q := by
        intro d
        induction d with
        | zero =>
          intro i hi R σ1 hb hs k
          have e : σ1 69 16 = (L.length : Int) := by rw [hs.1 69 16 (by decide) (by decide) (by omega)]; exact hL.1
          exact rX12_wrong_51 fun _ => ⟨by omega, fun _ => k σ1 hs ⟨fun s => by have := hb.1 s; show 0 ≤ R.1 s ∧ R.1 s ≤ 900; omega, by have := hb.2; show 0 ≤ R.2; omega, by have := hb.2; show R.2 ≤ 900; omega⟩, fun z => by omega⟩
        | succ d ih =>
          intro i hi R σ1 hb hs k
          have e : σ1 69 16 = (L.length : Int) := by rw [hs.1 69 16 (by decide) (by decide) (by omega)]; exact hL.1
          have hx := hok _ (getD_mem (show i < L.length by omega))
          have hbI := wrI_bnd (S := A.1) (L := L) (i := i) hx hb
          refine rX12_wrong_51 fun _ => ⟨by omega, fun z => by omega, fun _ => ⟨by omega, ?_⟩⟩
          rw [show σ1 78 ((i : Int).toNat) = ((L.getD i 0 / 8 : Nat) : Int) by rw [show ((i : Int).toNat) = i from rfl, hs.1 78 i (by decide) (by decide) (by omega)]; exact (hL.2.2 i (by omega)).1]
          refine m_wrongI h'.1 hA.1 hL hwf hok hgd (by omega) hs ⟨fun s => by have := hb.1 s; omega, by have := hb.2; omega, by have := hb.2; omega⟩ fun σ2 hs2 => ?_
          refine ih (i + 1) (by omega) (wrI A.1 L i R) σ2 ⟨fun s => by have := hbI.1 s; omega, by have := hbI.2; omega, by have := hbI.2; omega⟩ hs2 ?_
          unfold wrA at k
          rw [show L.length - (d + 1) = i by omega] at k
          exact k
      refine zero 256 0 rfl σ' (fun _ _ _ => rfl) (fun s hs => by omega) fun σ2 hs2 => ?_
      refine outer L.length 0 (by omega) zeroR σ2 ⟨fun s => ⟨Int.le_refl _, Int.le_refl _⟩, Int.le_refl _, Int.le_refl _⟩ hs2 fun σ3 hs3 hb3 => best _ σ3 hb3 hs3 ?_
      exact K σ3 (fun c k z => (hs3.1 c k (by omega) (by omega) (by omega)).trans (hf c k (by omega) (by omega) (by omega))) (h'.frameS fun c k z => hs3.1 c k (by unfold scrM at z; omega) (by unfold scrM at z; omega) (by unfold scrM at z; omega))
  · rw [if_neg q] at K
    rw [if_neg (show ¬ (0 ≤ w ∧ w ≤ 2) by omega)]
    exact ⟨by decide, fun z => absurd rfl z, fun _ => K σ (fun _ _ _ => rfl) h⟩
