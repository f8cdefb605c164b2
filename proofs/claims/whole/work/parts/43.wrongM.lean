/-! wrong: the reference, and the two together -/
def goodX (x : Nat) : Prop := x % 8 = 0 ∨ x % 8 < nms (x / 8)
theorem prs_good {b : Nat → Int} {n : Nat} : ∀ (f p due nd : Nat) (cs L : List Nat), (nd = 0 → ∀ x ∈ cs, goodX x) → (0 < nd → ∃ x r, cs = x :: r ∧ x % 8 = 0 ∧ nd = nms (x / 8) ∧ ∀ y ∈ r, goodX y) → prs b n f p due nd cs = .inr L → ∀ x ∈ L, goodX x
  | 0, p, due, nd, cs, L, _, _, h => by unfold prs at h; cases h
  | f + 1, p, due, nd, cs, L, h0, h1, h => by
    unfold prs at h
    split at h
    · split at h
      · rename_i hz
        injection h with h
        subst h
        exact fun x hx => h0 hz.2 x (List.mem_reverse.mp hx)
      · cases h
    · split at h
      · rename_i hnd
        split at h
        · rename_i hc
          obtain ⟨x, r, rfl, hx8, hnx, hr⟩ := h1 hnd
          have hn4 := nms_le (x / 8)
          refine prs_good f _ _ _ _ L (fun _ => ?_) (fun z => absurd z (by omega)) h
          intro y hy
          rcases List.mem_cons.mp hy with rfl | hy
          · refine Or.inr ?_
            rw [show (x + (b (skp b n p) - 48).toNat) / 8 = x / 8 by omega, ← hnx]; omega
          · exact hr y hy
        · cases h
      · rename_i hnd
        split at h
        · cases h
        · split at h
          · cases h
          · have hcs := h0 (by omega)
            generalize wAt b (skp b n p) (tend b n (skp b n p)) = w at *
            refine prs_good f _ _ _ _ L (fun z => ?_) (fun z => ⟨8 * w, cs, rfl, by omega, by rw [show 8 * w / 8 = w by omega], hcs⟩) h
            intro y hy
            rcases List.mem_cons.mp hy with rfl | hy
            · exact Or.inl (by omega)
            · exact hcs y hy
theorem prsT_good {b : Nat → Int} {n : Nat} {L : List Nat} (h : prsT b n = .inr L) : ∀ x ∈ L, goodX x :=
  prs_good (n + 1) 0 1 0 [] L (fun _ x hx => by cases hx) (fun z => absurd z (by omega)) h
def stWM (S : Sc) (L : List Nat) (σ0 : Sg) (R : TR) (σ : Sg) : Prop := (∀ c k, c ≠ 80 → c ≠ 97 → ¬ (c = 69 ∧ k = 38) → σ c k = σ0 c k) ∧ (∀ s, s < 256 → σ 97 s = R.1 s) ∧ σ 69 38 = R.2
theorem m_tryWord {X : Cx} {σ0 σ : Sg} {Q : Int → Sg → Prop} {S : Sc} {L : List Nat} {R : TR} {i w v y : Nat} (h : atM S σ0) (hS : okS S) (hL : hasM L σ0) (hw : wfL L) (hok : okC L) (hi : i < L.length) (hs : stWM S L σ0 R σ) (hb : bndR R 1000) (hw15 : w < 15) (hv : v < 8) (hy : y = 8 * w + v) (hp : prt w = prt (L.getD i 0 / 8)) (k : ∀ σ', stWM S L σ0 (tryA S L i R y) σ' → Q 0 σ') : KX12_tryWord X i w v σ Q := by
  subst hy
  have h24 := hL.2.1
  obtain ⟨hf, h97, h38⟩ := hs
  have e := hL.2.2 i hi
  have e78 : σ 78 ((i : Int).toNat) = ((L.getD i 0 / 8 : Nat) : Int) := by rw [show ((i : Int).toNat) = i from rfl, hf 78 i (by decide) (by decide) (by omega)]; exact e.1
  have e79 : σ 79 ((i : Int).toNat) = ((L.getD i 0 % 8 : Nat) : Int) := by rw [show ((i : Int).toNat) = i from rfl, hf 79 i (by decide) (by decide) (by omega)]; exact e.2
  have hx := hok _ (getD_mem hi)
  have go : ¬ 8 * w + v = L.getD i 0 → GX12_tryWord_28 X i w v ((L.getD i 0 / 8 : Nat) : Int) ((L.getD i 0 % 8 : Nat) : Int) σ Q := by
    intro hne
    rw [show (tryA S L i R (8 * w + v)) = (fun s => if s = meanL S (L.set i (8 * w + v)) then R.1 s + 1 else R.1 s, R.2 + 1) from if_neg hne] at k
    have hd : (8 * w + v) / 8 = w := by omega
    have hd' : (8 * w + v) % 8 = v := by omega
    refine rX12_tryWord_28 fun _ => ⟨by omega, by omega, by omega, by omega, ?_⟩
    rw [show ((i : Int).toNat) = i from rfl]
    have hL' : hasM (L.set i (8 * w + v)) (up2 (up2 σ 78 i (w : Nat)) 79 i (v : Nat)) := by
      refine ⟨by rw [List.length_set, up2_nc _ _ (by decide), up2_nc _ _ (by decide), hf 69 16 (by decide) (by decide) (by omega)]; exact hL.1, by rw [List.length_set]; exact h24, fun t ht => ?_⟩
      rw [List.length_set] at ht
      rw [getD_set hi, up2_nc _ _ (show (78 : Nat) ≠ 79 by decide)]
      by_cases q : t = i
      · rw [if_pos q, q, up2_s, up2_s, hd, hd']; exact ⟨rfl, rfl⟩
      · rw [if_neg q, up2_nk _ _ q, up2_nk _ _ q, up2_nc _ _ (show (79 : Nat) ≠ 78 by decide), hf 78 t (by decide) (by decide) (by omega), hf 79 t (by decide) (by decide) (by omega)]
        exact hL.2.2 t ht
    refine m_meaning (h.frame fun c k z => by rw [up2_nc _ _ (by omega), up2_nc _ _ (by omega)]; exact hf c k (by omega) (by omega) (by omega)) hS.2.1 hS.2.2.1 hS.2.2.2.1 hL' (wfL_set hw hi (by rw [hd]; exact hp)) (okC_set hok (by omega)) fun σ2 hf2 _ => ?_
    have hm256 := mean_lt (S := S) (L := L.set i (8 * w + v)) hS.1
    generalize meanL S (L.set i (8 * w + v)) = mm at *
    have g97 : ∀ s, s < 256 → σ2 97 s = R.1 s := fun s hs => by rw [hf2 97 s (by decide), up2_nc _ _ (by decide), up2_nc _ _ (by decide)]; exact h97 s hs
    have g38 : σ2 69 38 = R.2 := by rw [hf2 69 38 (by decide), up2_nc _ _ (by decide), up2_nc _ _ (by decide)]; exact h38
    rw [show ((mm : Int).toNat) = mm from rfl, g97 mm hm256, g38]
    have b1 := hb.1 mm
    have b2 := hb.2
    refine ⟨by omega, by omega, by omega, by omega, by omega, by omega, by omega, by omega, k _ ⟨fun c k a b d => ?_, fun s hs => ?_, ?_⟩⟩
    · by_cases q1 : c = 79 ∧ k = i
      · rw [q1.1, q1.2, up2_s]; exact e.2.symm
      · rw [up2_a _ _ q1]
        by_cases q2 : c = 78 ∧ k = i
        · rw [q2.1, q2.2, up2_s]; exact e.1.symm
        · rw [up2_a _ _ q2, up2_a _ _ d, up2_nc _ _ b, hf2 c k a, up2_a _ _ q1, up2_a _ _ q2]; exact hf c k a b d
    · rw [up2_nc _ _ (by decide), up2_nc _ _ (by decide), up2_nc _ _ (by decide)]
      show _ = (if s = mm then R.1 s + 1 else R.1 s)
      by_cases q : s = mm
      · rw [if_pos q, q, up2_s]
      · rw [if_neg q, up2_nk _ _ q]; exact g97 s hs
    · rw [up2_nc _ _ (by decide), up2_nc _ _ (by decide), up2_s]
  refine eX12_tryWord (rX12_tryWord_0 fun _ => ⟨by omega, by omega, by omega, ?_⟩)
  rw [e78, e79]
  refine ⟨fun z => go (by omega), fun z => ⟨by omega, fun z2 => ?_, fun z2 => go (by omega)⟩⟩
  refine k σ ?_
  rw [show tryA S L i R (8 * w + v) = R from if_pos (by omega)]
  exact ⟨hf, h97, h38⟩
theorem tryA_no {S : Sc} {L : List Nat} {i y : Nat} {R : TR} (h : y = L.getD i 0) : tryA S L i R y = R := if_pos h
theorem zrem2 : ∀ w : Nat, w < 15 → zrem (w : Int) 2 = ((w % 2 : Nat) : Int) := by decide +kernel
theorem prtO : ∀ w : Nat, w < 15 → (5 ≤ w ∧ w ≤ 7 → prt w = 2) ∧ (8 ≤ w → prt w = 1) := by decide +kernel
theorem m_wrongI {X : Cx} {σ0 σ : Sg} {Q : Int → Sg → Prop} {S : Sc} {L : List Nat} {R : TR} {i : Nat} {what : Int} (h : atM S σ0) (hS : okS S) (hL : hasM L σ0) (hw : wfL L) (hok : okC L) (hg : ∀ x ∈ L, goodX x) (hi : i < L.length) (hs : stWM S L σ0 R σ) (hb : bndR R 900) (k : ∀ σ', stWM S L σ0 (wrI S L i R) σ' → GX12_wrong_51 X what ((i : Int) + 1) σ' Q) : GX12_wrong_69 X what i ((L.getD i 0 / 8 : Nat) : Int) 0 σ Q := by
  have hx := hok _ (getD_mem hi)
  have hgx := hg _ (getD_mem hi)
  unfold wrI at k
  generalize hw' : L.getD i 0 / 8 = w at *
  have hw15 : w < 15 := by omega
  have t141 : ∀ (v : Int) (R' : TR) (σ1 : Sg), bndR R' 950 → stWM S L σ0 R' σ1 → ¬ (8 ≤ w ∧ w ≤ 13) → (∀ σ', stWM S L σ0 R' σ' → GX12_wrong_51 X what ((i : Int) + 1) σ' Q) → GX12_wrong_141 X what i w v σ1 Q := by
    intro v R' σ1 _ hs1 hn k
    refine rX12_wrong_141 fun _ => m_in (by omega) (by decide) (by decide) fun _ => ?_
    rw [if_neg (by omega)]
    exact ⟨by decide, fun _ => rX12_wrong_173 fun _ => k σ1 hs1, fun z => absurd rfl z⟩
  have t107 : ∀ (v : Int) (R' : TR) (σ1 : Sg), bndR R' 950 → stWM S L σ0 R' σ1 → ¬ (8 ≤ w ∧ w ≤ 13) → ¬ (5 ≤ w ∧ w ≤ 7) → (∀ σ', stWM S L σ0 R' σ' → GX12_wrong_51 X what ((i : Int) + 1) σ' Q) → GX12_wrong_107 X what i w v σ1 Q := by
    intro v R' σ1 hb1 hs1 hn hn5 k
    refine rX12_wrong_107 fun _ => rX12_wrong_110 fun _ => ⟨by decide, fun z => absurd z (by decide), fun _ => m_in (by omega) (by decide) (by decide) fun _ => ?_⟩
    rw [if_neg (by omega)]
    exact ⟨by decide, fun _ => t141 _ R' σ1 hb1 hs1 hn k, fun z => absurd rfl z⟩
  by_cases c13 : 1 ≤ w ∧ w ≤ 3
  · have loop : ∀ d j : Nat, j + d = (if w = 3 then 3 else 4) → ∀ (R' : TR) (σ1 : Sg), bndR R' (900 + j) → stWM S L σ0 R' σ1 → (∀ σ', stWM S L σ0 (((List.range' j d).map (fun v => 8 * w + v)).foldl (tryA S L i) R') σ' → GX12_wrong_51 X what ((i : Int) + 1) σ' Q) → GX12_wrong_69 X what i w j σ1 Q := by
      intro d
      induction d with
      | zero =>
        intro j hj R' σ1 hb1 hs1 k
        have hj4 : j ≤ 4 := by split at hj <;> omega
        have tl : GX12_wrong_107 X what i w j σ1 Q := t107 _ R' σ1 ⟨fun s => by have := hb1.1 s; omega, by have := hb1.2; omega, by have := hb1.2; omega⟩ hs1 (by omega) (by omega) k
        refine rX12_wrong_69 fun _ => ⟨by omega, fun z => rX12_wrong_81 fun _ => ⟨by omega, by omega, fun _ => tl, fun y => ?_⟩, fun z => rX12_wrong_81 fun _ => ⟨by omega, by omega, fun _ => tl, fun y => ?_⟩⟩
        · rw [if_neg (by omega)] at hj; omega
        · rw [if_pos (by omega)] at hj; omega
      | succ d ih =>
        intro j hj R' σ1 hb1 hs1 k
        have hj4 : j < 4 := by split at hj <;> omega
        have nx : KX12_in X w 1 3 σ1 (fun r4 σ5 => Rng σ5 → (inI r4) ∧ ((r4 = 0 → GX12_wrong_107 X what i w j σ5 Q) ∧ (¬ r4 = 0 → KX12_tryWord X i w j σ5 (fun r9 σ10 => Rng σ10 → GX12_wrong_69 X what i w ((j : Int) + 1) σ10 Q)))) := by
          refine m_in (by omega) (by decide) (by decide) fun _ => ?_
          rw [if_pos (by omega)]
          refine ⟨by decide, fun z => absurd z (by decide), fun _ => m_tryWord h hS hL hw hok hi hs1 ⟨fun s => by have := hb1.1 s; omega, by have := hb1.2; omega, by have := hb1.2; omega⟩ hw15 (by omega) rfl (by rw [hw']) fun σ2 hs2 _ => ih (j + 1) (by omega) _ σ2 ?_ hs2 fun σ' hs' => k σ' ?_⟩
          · have := tryA_bnd (S := S) (L := L) (i := i) (y := 8 * w + j) hb1
            exact ⟨fun s => by have := this.1 s; omega, by have := this.2; omega, by have := this.2; omega⟩
          · rw [List.range'_succ, List.map_cons, List.foldl_cons]; exact hs'
        refine rX12_wrong_69 fun _ => ⟨by omega, fun z => rX12_wrong_81 fun _ => ⟨by omega, by omega, fun y => ?_, fun _ => nx⟩, fun z => rX12_wrong_81 fun _ => ⟨by omega, by omega, fun y => ?_, fun _ => nx⟩⟩
        · rw [if_neg (by omega)] at hj; omega
        · rw [if_pos (by omega)] at hj; omega
    refine loop (if w = 3 then 3 else 4) 0 (by omega) R σ ⟨fun s => by have := hb.1 s; omega, by have := hb.2; omega, by have := hb.2; omega⟩ hs fun σ' hs' => k σ' ?_
    have e : altL w = ((List.range' 0 (if w = 3 then 3 else 4)).map (fun v => 8 * w + v)) := by
      rcases (show w = 1 ∨ w = 2 ∨ w = 3 by omega) with rfl | rfl | rfl <;> rfl
    rw [e]; exact hs'
  · have hx8 : L.getD i 0 = 8 * w := by
      have : nms w = 0 := by unfold nms; rw [if_neg (by omega), if_neg (by omega)]
      unfold goodX at hgx
      rw [hw'] at hgx
      omega
    have start : (∀ σ1 : Sg, stWM S L σ0 R σ1 → GX12_wrong_107 X what i w 0 σ1 Q) → GX12_wrong_69 X what i w 0 σ Q := by
      intro g
      refine rX12_wrong_69 fun _ => ⟨by omega, fun z => rX12_wrong_81 fun _ => ⟨by decide, by decide, fun y => absurd y (by decide), fun _ => m_in (by omega) (by decide) (by decide) fun _ => ?_⟩, fun z => by omega⟩
      rw [if_neg (by omega)]
      exact ⟨by decide, fun _ => g σ hs, fun z => absurd rfl z⟩
    refine start fun σ1 hs1 => ?_
    by_cases c57 : 5 ≤ w ∧ w ≤ 7
    · have step : ∀ (o : Nat) (R' : TR) (σ2 : Sg), 5 ≤ o → o ≤ 7 → bndR R' (900 + o) → stWM S L σ0 R' σ2 → (∀ σ', stWM S L σ0 (tryA S L i R' (8 * o)) σ' → GX12_wrong_110 X what i w ((o : Int) + 1) σ' Q) → GX12_wrong_110 X what i w o σ2 Q := by
        intro o R' σ2 h5 h7 hb2 hs2 k2
        refine rX12_wrong_110 fun _ => ⟨by omega, fun z => by omega, fun _ => m_in (by omega) (by decide) (by decide) fun _ => ?_⟩
        rw [if_pos (by omega)]
        refine ⟨by decide, fun z => absurd z (by decide), fun _ => m_tryWord (v := 0) h hS hL hw hok hi hs2 ⟨fun s => by have := hb2.1 s; omega, by have := hb2.2; omega, by have := hb2.2; omega⟩ (by omega) (by decide) rfl ?_ fun σ3 hs3 _ => k2 σ3 hs3⟩
        rw [hw', (prtO o (by omega)).1 ⟨h5, h7⟩, (prtO w hw15).1 c57]
      have b0 : bndR R (900 + (5 : Nat)) := ⟨fun s => by have := hb.1 s; omega, by have := hb.2; omega, by have := hb.2; omega⟩
      refine rX12_wrong_107 fun _ => step 5 R σ1 (by decide) (by decide) b0 hs1 fun σ2 hs2 => ?_
      have b1 := tryA_bnd (S := S) (L := L) (i := i) (y := 8 * 5) b0
      refine step 6 _ σ2 (by decide) (by decide) ⟨fun s => by have := b1.1 s; omega, by have := b1.2; omega, by have := b1.2; omega⟩ hs2 fun σ3 hs3 => ?_
      have b2 := tryA_bnd (S := S) (L := L) (i := i) (y := 8 * 6) b1
      refine step 7 _ σ3 (by decide) (by decide) ⟨fun s => by have := b2.1 s; omega, by have := b2.2; omega, by have := b2.2; omega⟩ hs3 fun σ4 hs4 => ?_
      have b3 := tryA_bnd (S := S) (L := L) (i := i) (y := 8 * 7) b2
      refine rX12_wrong_110 fun _ => ⟨by decide, fun _ => t141 _ _ σ4 ⟨fun s => by have := b3.1 s; omega, by have := b3.2; omega, by have := b3.2; omega⟩ hs4 (by omega) fun σ' hs' => k σ' ?_, fun z => absurd z (by decide)⟩
      have e : altL w = [40, 48, 56] := by rcases (show w = 5 ∨ w = 6 ∨ w = 7 by omega) with rfl | rfl | rfl <;> rfl
      rw [e]; exact hs'
    · by_cases c8 : 8 ≤ w ∧ w ≤ 13
      · refine rX12_wrong_107 fun _ => rX12_wrong_110 fun _ => ⟨by decide, fun z => absurd z (by decide), fun _ => m_in (by omega) (by decide) (by decide) fun _ => ?_⟩
        rw [if_neg (by omega)]
        refine ⟨by decide, fun _ => rX12_wrong_141 fun _ => m_in (by omega) (by decide) (by decide) fun _ => ?_, fun z => absurd rfl z⟩
        rw [if_pos (by omega), zrem2 w hw15]
        have hb2 : bndR R 1000 := ⟨fun s => by have := hb.1 s; omega, by have := hb.2; omega, by have := hb.2; omega⟩
        have ev : altL w = [8 * (w - w % 2), 8 * (w - w % 2) + 8] := by
          unfold altL; rw [if_neg (by omega), if_neg (by omega), if_neg (by omega), if_pos c8]
        rw [ev] at k
        have go : ∀ o : Nat, o < 15 → 8 ≤ o → (∀ σ', stWM S L σ0 (tryA S L i R (8 * o)) σ' → GX12_wrong_51 X what ((i : Int) + 1) σ' Q) → GX12_wrong_169 X what i w 5 o i σ1 Q := by
          intro o ho h8o k2
          refine rX12_wrong_169 fun _ => m_tryWord (v := 0) h hS hL hw hok hi hs1 hb2 ho (by decide) rfl (by rw [hw', (prtO o ho).2 h8o, (prtO w hw15).2 c8.1]) fun σ3 hs3 _ => rX12_wrong_173 fun _ => k2 σ3 hs3
        refine ⟨by decide, fun z => absurd z (by decide), fun _ => ⟨fun z => ?_, fun z => ?_⟩⟩
        · rw [show ((w : Int) - 1) = ((w - 1 : Nat) : Int) by omega]
          refine go (w - 1) (by omega) (by omega) fun σ' hs' => k σ' ?_
          rw [List.foldl_cons, List.foldl_cons, List.foldl_nil, tryA_no (y := 8 * (w - w % 2) + 8) (by omega), show 8 * (w - w % 2) = 8 * (w - 1) by omega]
          exact hs'
        · rw [show ((w : Int) + 1) = ((w + 1 : Nat) : Int) by omega]
          refine go (w + 1) (by omega) (by omega) fun σ' hs' => k σ' ?_
          rw [List.foldl_cons, List.foldl_cons, List.foldl_nil, tryA_no (y := 8 * (w - w % 2)) (by omega), show 8 * (w - w % 2) + 8 = 8 * (w + 1) by omega]
          exact hs'
      · refine t107 _ R σ1 ⟨fun s => by have := hb.1 s; omega, by have := hb.2; omega, by have := hb.2; omega⟩ hs1 c8 c57 fun σ' hs' => k σ' ?_
        have ev : altL w = [8 * w] := by
          unfold altL; rw [if_neg (by omega), if_neg (by omega), if_neg (by omega), if_neg c8]
        rw [ev, List.foldl_cons, List.foldl_nil, tryA_no hx8.symm]
        exact hs'
