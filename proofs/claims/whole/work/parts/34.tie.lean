/-! paint of the reference; of, price, tie -/
theorem m_paint {X : Cx} {A : AS} {σ : Sg} {t w v : Int} (h : InvM A σ) (hA : okA A) (ht : inI t) (hw : inI w) (hv : inI v) : doesM (opPaint A t w v) σ (KX12_paint X t w v σ) := by
  intro Q K
  have hat := h.1
  obtain ⟨hn, h8, hr⟩ := hat
  have hz := h.2.1
  unfold opPaint at K
  refine eX12_paint (rX12_paint_0 fun hRng => m_isThing hn h8 ht fun _ => ?_)
  by_cases q : 0 ≤ t ∧ t < (A.1.1 : Int)
  · rw [if_pos q] at K ⊢
    refine ⟨by decide, fun _ => m_in hw (by decide) (by decide) fun _ => ?_, fun z => absurd z (by decide)⟩
    obtain ⟨i, rfl⟩ : ∃ i : Nat, t = i := ⟨t.toNat, by omega⟩
    by_cases q4 : 0 ≤ w ∧ w ≤ 3
    · rw [if_pos q4]
      obtain ⟨n, rfl⟩ : ∃ n : Nat, w = n := ⟨w.toNat, by omega⟩
      have hi : i < A.1.1 := by omega
      rw [show ((n : Int).toNat) = n from rfl, show ((i : Int).toNat) = i from rfl] at *
      obtain ⟨r0, r1, r2, r3, r4, r6⟩ := hr i hi
      have fin : ∀ a b c d : Int, a = (setS A.1 n i v).2 0 i → b = (setS A.1 n i v).2 1 i → c = (setS A.1 n i v).2 2 i → d = (setS A.1 n i v).2 3 i → lookOk n v → Q (A.1.2 n i) (up2 (up2 (up2 (up2 σ 70 i a) 71 i b) 72 i c) 73 i d) := by
        intro a b c d ha hb hc hd hl
        rw [if_pos hl] at K
        refine K _ (fun c' k' z => by rw [up2_nc _ _ (by omega), up2_nc _ _ (by omega), up2_nc _ _ (by omega), up2_nc _ _ (by omega)]) (h.scene (fun c' k' z1 z2 z3 => by rw [up2_nc _ _ (by omega), up2_nc _ _ (by omega), up2_nc _ _ (by omega), up2_nc _ _ (by omega)]) ⟨by rw [up2_nc _ _ (by omega), up2_nc _ _ (by omega), up2_nc _ _ (by omega), up2_nc _ _ (by omega)]; exact hn, h8, fun j hj => ?_⟩ (fun j hj1 hj2 => ?_))
        · by_cases qj : j = i
          · rw [qj, up2_nc _ _ (show (70 : Nat) ≠ 73 by decide), up2_nc _ _ (show (70 : Nat) ≠ 72 by decide), up2_nc _ _ (show (70 : Nat) ≠ 71 by decide), up2_s, up2_nc _ _ (show (71 : Nat) ≠ 73 by decide), up2_nc _ _ (show (71 : Nat) ≠ 72 by decide), up2_s, up2_nc _ _ (show (72 : Nat) ≠ 73 by decide), up2_s, up2_s, up2_nc _ _ (show (74 : Nat) ≠ 73 by decide), up2_nc _ _ (show (74 : Nat) ≠ 72 by decide), up2_nc _ _ (show (74 : Nat) ≠ 71 by decide), up2_nc _ _ (show (74 : Nat) ≠ 70 by decide), up2_nc _ _ (show (75 : Nat) ≠ 73 by decide), up2_nc _ _ (show (75 : Nat) ≠ 72 by decide), up2_nc _ _ (show (75 : Nat) ≠ 71 by decide), up2_nc _ _ (show (75 : Nat) ≠ 70 by decide)]
            exact ⟨ha, hb, hc, hd, by rw [setS_low (by omega) (by decide)]; exact r4, by rw [setS_low (by omega) (by decide)]; exact r6⟩
          · have e : ∀ r, (setS A.1 n i v).2 r j = A.1.2 r j := fun r => if_neg (fun z => qj z.2)
            rw [e, e, e, e, e, e]
            rw [up2_a _ _ (by omega), up2_a _ _ (by omega), up2_a _ _ (by omega), up2_a _ _ (by omega), up2_a _ _ (by omega), up2_a _ _ (by omega), up2_a _ _ (by omega), up2_a _ _ (by omega), up2_a _ _ (by omega), up2_a _ _ (by omega), up2_a _ _ (by omega), up2_a _ _ (by omega), up2_a _ _ (by omega), up2_a _ _ (by omega), up2_a _ _ (by omega), up2_a _ _ (by omega), up2_a _ _ (by omega), up2_a _ _ (by omega), up2_a _ _ (by omega), up2_a _ _ (by omega), up2_a _ _ (by omega), up2_a _ _ (by omega), up2_a _ _ (by omega), up2_a _ _ (by omega)]
            exact hr j hj
        · have hj1' : A.1.1 ≤ j := hj1
          rw [up2_a _ _ (by omega), up2_a _ _ (by omega), up2_a _ _ (by omega), up2_a _ _ (by omega), up2_a _ _ (by omega), up2_a _ _ (by omega), up2_a _ _ (by omega), up2_a _ _ (by omega)]
          exact hz j hj1 hj2
      have out : ¬ lookOk n v → Q (-3) σ := fun z => by
        rw [if_neg z] at K
        exact K σ (fun _ _ _ => rfl) h
      have e' : ∀ r, ¬ r = n → (setS A.1 n i v).2 r i = A.1.2 r i := fun r z => if_neg (fun y => z y.1)
      have e'' : (setS A.1 n i v).2 n i = v := if_pos ⟨rfl, rfl⟩
      have m52 : ∀ a b : Int, (lookOk n v ↔ a ≤ v ∧ v ≤ b) → inI a → inI b → GX12_paint_52 X i n v b a v σ Q := by
        intro a b hab ia ib
        refine rX12_paint_52 fun _ => m_in hv ia ib fun _ => ?_
        by_cases ql : a ≤ v ∧ v ≤ b
        · rw [if_pos ql]
          have hl := hab.mpr ql
          refine ⟨by decide, fun _ => ?_, fun z => absurd z (by decide)⟩
          have go : GX12_paint_108 X i n v (A.1.2 n i) σ Q := by
            have w0 : ∀ a b c d : Int, a = (setS A.1 n i v).2 0 i → b = (setS A.1 n i v).2 1 i → c = (setS A.1 n i v).2 2 i → d = (setS A.1 n i v).2 3 i → inI a → inI b → inI c → inI d → Q (A.1.2 n i) (up2 (up2 (up2 (up2 σ 70 i a) 71 i b) 72 i c) 73 i d) := fun a b c d x1 x2 x3 x4 _ _ _ _ => fin a b c d x1 x2 x3 x4 hl
            have g0 : inI (σ 70 i) := hRng.1 70 i (by omega)
            have g1 : inI (σ 71 i) := hRng.1 71 i (by omega)
            have g2 : inI (σ 72 i) := hRng.1 72 i (by omega)
            have g3 : inI (σ 73 i) := hRng.1 73 i (by omega)
            have p4 : ∀ σ1 : Sg, ∀ c : Int, inI c → (∀ k, σ1 73 k = σ 73 k) → (∀ d, d = (setS A.1 n i v).2 3 i → Q (A.1.2 n i) (up2 (up2 σ1 72 i c) 73 i d)) → GX12_paint_171 X i n v (A.1.2 n i) c i σ1 Q := by
              intro σ1 c ic f k
              refine rX12_paint_171 fun _ => ⟨by omega, ic, by omega, fun z => ⟨by omega, by omega, ?_⟩, fun z => ⟨by omega, hv, ?_⟩⟩
              · rw [f]; exact k _ (by rw [e' 3 (by omega)]; exact r3)
              · exact k _ (by rw [show 3 = n by omega]; exact e''.symm)
            have p3 : ∀ σ1 : Sg, ∀ b : Int, inI b → (∀ c k, 72 ≤ c → σ1 c k = σ c k) → (∀ c d, c = (setS A.1 n i v).2 2 i → d = (setS A.1 n i v).2 3 i → Q (A.1.2 n i) (up2 (up2 (up2 σ1 71 i b) 72 i c) 73 i d)) → GX12_paint_150 X i n v (A.1.2 n i) b i σ1 Q := by
              intro σ1 b ib f k
              refine rX12_paint_150 fun _ => ⟨by omega, ib, by omega, fun z => ⟨by omega, p4 _ _ ?_ (fun k => by rw [up2_nc _ _ (by decide), f 73 k (by decide)]) fun d hd => k _ d ?_ hd⟩, fun z => p4 _ _ hv (fun k => by rw [up2_nc _ _ (by decide), f 73 k (by decide)]) fun d hd => k _ d ?_ hd⟩
              · rw [f 72 _ (by decide)]; exact g2
              · rw [f 72 _ (by decide), e' 2 (by omega)]; exact r2
              · rw [show 2 = n by omega]; exact e''.symm
            have p2 : ∀ σ1 : Sg, ∀ a : Int, inI a → (∀ c k, 71 ≤ c → σ1 c k = σ c k) → (∀ b c d, b = (setS A.1 n i v).2 1 i → c = (setS A.1 n i v).2 2 i → d = (setS A.1 n i v).2 3 i → Q (A.1.2 n i) (up2 (up2 (up2 (up2 σ1 70 i a) 71 i b) 72 i c) 73 i d)) → GX12_paint_129 X i n v (A.1.2 n i) a i σ1 Q := by
              intro σ1 a ia f k
              refine rX12_paint_129 fun _ => ⟨by omega, ia, by omega, fun z => ⟨by omega, p3 _ _ ?_ (fun c k hc => by rw [up2_nc _ _ (by omega), f c k (by omega)]) fun c d hc hd => k _ c d ?_ hc hd⟩, fun z => p3 _ _ hv (fun c k hc => by rw [up2_nc _ _ (by omega), f c k (by omega)]) fun c d hc hd => k _ c d ?_ hc hd⟩
              · rw [f 71 _ (by decide)]; exact g1
              · rw [f 71 _ (by decide), e' 1 (by omega)]; exact r1
              · rw [show 1 = n by omega]; exact e''.symm
            refine rX12_paint_108 fun _ => ⟨by omega, fun z => ⟨by omega, p2 _ _ g0 (fun _ _ _ => rfl) fun b c d hb hc hd => fin _ b c d ?_ hb hc hd hl⟩, fun z => p2 _ _ hv (fun _ _ _ => rfl) fun b c d hb hc hd => fin _ b c d ?_ hb hc hd hl⟩
            · rw [e' 0 (by omega)]; exact r0
            · rw [show 0 = n by omega]; exact e''.symm
          refine ⟨by omega, fun z0 => ⟨by omega, fun z1 => ⟨by omega, fun z2 => ⟨by omega, ?_⟩, fun z2 => ⟨by omega, ?_⟩⟩, fun z1 => ⟨by omega, ?_⟩⟩, fun z0 => ⟨by omega, ?_⟩⟩
          · rw [show σ 73 ((i : Int).toNat) = A.1.2 3 i from r3, show A.1.2 3 i = A.1.2 n i by rw [show n = 3 by omega]]; exact go
          · rw [show σ 72 ((i : Int).toNat) = A.1.2 2 i from r2, show A.1.2 2 i = A.1.2 n i by rw [show n = 2 by omega]]; exact go
          · rw [show σ 71 ((i : Int).toNat) = A.1.2 1 i from r1, show A.1.2 1 i = A.1.2 n i by rw [show n = 1 by omega]]; exact go
          · rw [show σ 70 ((i : Int).toNat) = A.1.2 0 i from r0, show A.1.2 0 i = A.1.2 n i by rw [show n = 0 by omega]]; exact go
        · rw [if_neg ql]
          exact ⟨by decide, fun z => absurd rfl z, fun _ => out (fun z => ql (hab.mp z))⟩
      refine ⟨by decide, fun z => absurd z (by decide), fun _ => ⟨by omega, fun z2 => ?_, fun z2 => ?_⟩⟩
      · refine rX12_paint_31 fun _ => ⟨by omega, fun z3 => ⟨by omega, fun z4 => m52 0 7 ?_ (by decide) (by decide), fun z4 => by omega⟩, fun z3 => m52 0 3 ?_ (by decide) (by decide)⟩
        · unfold lookOk; rw [if_neg z2, if_neg (by omega), if_neg z2]; exact ⟨fun z => z.2, fun z => ⟨by omega, z⟩⟩
        · unfold lookOk; rw [if_neg z2, if_pos z3]; exact ⟨fun z => z.2, fun z => ⟨by omega, z⟩⟩
      · refine rX12_paint_31 fun _ => ⟨by omega, fun z3 => ⟨by omega, fun z4 => by omega, fun z4 => m52 1 9 ?_ (by decide) (by decide)⟩, fun z3 => by omega⟩
        unfold lookOk; rw [if_pos z2, if_neg (by omega), if_pos z2]; exact ⟨fun z => z.2, fun z => ⟨by omega, z⟩⟩
    · rw [if_neg q4]
      rw [if_neg (fun z : lookOk w v => q4 ⟨z.1.1, by have := z.1.2; omega⟩)] at K
      exact ⟨by decide, fun _ => K σ (fun _ _ _ => rfl) h, fun z => absurd rfl z⟩
  · rw [if_neg q] at K ⊢
    exact ⟨by decide, fun z => absurd rfl z, fun _ => K σ (fun _ _ _ => rfl) h⟩
