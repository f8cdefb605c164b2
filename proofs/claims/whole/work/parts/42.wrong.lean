/-! wrong: what was misheard -/
theorem s_fill {X : Cx} {σ : Sg} {Q : Int → Sg → Prop} {c0 nc0 : Nat} {v : Int} (hc0 : shp c0 = (20, nc0)) (hn : nc0 < 1000) (hv : inI v) (k : ∀ σ', (∀ c j, c ≠ c0 → σ' c j = σ c j) → (∀ j, j < nc0 → σ' c0 j = v) → Q 0 σ') : KJ7_fill_53178 X c0 v σ Q := by
  refine eJ7_fill_53178 (rJ7_fill_53178_0 hc0 (by omega) fun _ => ?_)
  have loop : ∀ d i : Nat, i + d = nc0 → ∀ σ1 : Sg, (∀ c j, c ≠ c0 → σ1 c j = σ c j) → (∀ j, j < i → σ1 c0 j = v) → GJ7_fill_53178_5 X c0 v i nc0 σ1 Q := by
    intro d
    induction d with
    | zero =>
      intro i hi σ1 hf ht
      have : i = nc0 := by omega
      subst this
      exact rJ7_fill_53178_5 hc0 (by omega) fun _ => ⟨by omega, by omega, fun _ => k σ1 hf ht, fun z => by omega⟩
    | succ d ih =>
      intro i hi σ1 hf ht
      refine rJ7_fill_53178_5 hc0 (by omega) fun _ => ⟨by omega, by omega, fun z => by omega, fun _ => ⟨by omega, hv, ?_⟩⟩
      refine ih (i + 1) (by omega) _ (fun c j z => by rw [up2_nc _ _ z]; exact hf c j z) fun j hj => ?_
      by_cases q : j = i
      · subst q; exact up2_s _ _ _ _
      · rw [up2_nk _ _ (show j ≠ ((i : Int).toNat) from q)]; exact ht j (by omega)
  exact loop nc0 0 (by omega) σ (fun _ _ _ => rfl) fun j hj => by omega
abbrev TR : Type := (Nat → Int) × Int
def tryA (S : Sc) (L : List Nat) (i : Nat) (R : TR) (y : Nat) : TR := if y = L.getD i 0 then R else (fun s => if s = meanL S (L.set i y) then R.1 s + 1 else R.1 s, R.2 + 1)
def bndR (R : TR) (b : Int) : Prop := (∀ s, 0 ≤ R.1 s ∧ R.1 s ≤ b) ∧ 0 ≤ R.2 ∧ R.2 ≤ b
theorem tryA_bnd {S : Sc} {L : List Nat} {i y : Nat} {R : TR} {b : Int} (h : bndR R b) : bndR (tryA S L i R y) (b + 1) := by
  obtain ⟨h1, h2⟩ := h
  unfold tryA
  split
  · exact ⟨fun s => by have := h1 s; omega, by omega, by omega⟩
  · refine ⟨fun s => ?_, by show 0 ≤ R.2 + 1; omega, by show R.2 + 1 ≤ b + 1; omega⟩
    show 0 ≤ (if s = meanL S (L.set i y) then R.1 s + 1 else R.1 s) ∧ (if s = meanL S (L.set i y) then R.1 s + 1 else R.1 s) ≤ b + 1
    have := h1 s
    split <;> omega
theorem foldA_bnd {S : Sc} {L : List Nat} {i : Nat} : ∀ (ys : List Nat) (R : TR) (b : Int), bndR R b → bndR (ys.foldl (tryA S L i) R) (b + ys.length)
  | [], R, b, h => by
    show bndR R (b + ((0 : Nat) : Int))
    rw [show b + ((0 : Nat) : Int) = b by omega]; exact h
  | y :: ys, R, b, h => by
    have := foldA_bnd (S := S) (L := L) (i := i) ys _ _ (tryA_bnd (S := S) (L := L) (i := i) (y := y) h)
    show bndR _ (b + ((ys.length + 1 : Nat) : Int))
    rw [show b + ((ys.length + 1 : Nat) : Int) = b + 1 + (ys.length : Int) by omega]
    exact this
theorem getD_set {L : List Nat} {i j y : Nat} (hi : i < L.length) : (L.set i y).getD j 0 = if j = i then y else L.getD j 0 := by
  rw [List.getD_eq_getElem?_getD, List.getD_eq_getElem?_getD, List.getElem?_set]
  by_cases q : i = j
  · subst q; simp [hi]
  · rw [if_neg q, if_neg (fun z => q z.symm)]
theorem ht_set : ∀ (L : List Nat) (i y : Nat), i < L.length → prt (y / 8) = prt (L.getD i 0 / 8) → ht (L.set i y) = ht L
  | [], i, y, h, _ => by cases h
  | x :: xs, 0, y, _, e => by
    show ht xs + 1 - prt (y / 8) = ht xs + 1 - prt (x / 8)
    rw [e]; rfl
  | x :: xs, i + 1, y, h, e => by
    show ht (xs.set i y) + 1 - prt (x / 8) = ht xs + 1 - prt (x / 8)
    rw [ht_set xs i y (by simpa using h) e]
theorem drop_set : ∀ (L : List Nat) (i y k : Nat), i < L.length → prt (y / 8) = prt (L.getD i 0 / 8) → ht ((L.set i y).drop k) = ht (L.drop k)
  | L, i, y, 0, h, e => by rw [List.drop_zero, List.drop_zero]; exact ht_set L i y h e
  | [], i, y, k + 1, h, e => by cases h
  | x :: xs, 0, y, k + 1, h, e => rfl
  | x :: xs, i + 1, y, k + 1, h, e => drop_set xs i y k (by simpa using h) e
theorem wfL_set {L : List Nat} {i y : Nat} (h : wfL L) (hi : i < L.length) (e : prt (y / 8) = prt (L.getD i 0 / 8)) : wfL (L.set i y) := by
  refine ⟨fun k hk => ?_, ?_⟩
  · rw [List.length_set] at hk
    rw [drop_set L i y k hi e]; exact h.1 k hk
  · rw [ht_set L i y hi e]; exact h.2
theorem okC_set {L : List Nat} {i y : Nat} (h : okC L) (hy : y < 120) : okC (L.set i y) := fun x hx => by
  rcases List.mem_or_eq_of_mem_set hx with z | z
  · exact h x z
  · omega
def stWC (S : Sc) (L : List Nat) (σ0 : Sg) (R : TR) (σ : Sg) : Prop := (∀ c k, c ≠ 15 → c ≠ 16 → c ≠ 66 → ¬ (c = 65 ∧ (k = 1 ∨ k = 2)) → σ c k = σ0 c k) ∧ (∀ i, i < L.length → σ 15 i = ((L.getD i 0 : Nat) : Int)) ∧ (∀ s, s < 256 → σ 66 s = R.1 s) ∧ σ 65 1 = R.2
theorem zand255 {a : Nat} (h : a < 256) : zand (a : Int) 255 = (a : Int) := by
  rw [show (255 : Int) = ((255 : Nat) : Int) from rfl, zand_nat (by omega) (by omega)]
  rw [show a &&& 255 = a % 256 from Nat.and_two_pow_sub_one_eq_mod a 8, Nat.mod_eq_of_lt h]
def hearL (w : Nat) : List Nat := (List.range (max 1 (nms w))).map (fun v => 8 * w + v)
theorem s_hearAs {X : Cx} {σ0 σ : Sg} {Q : Int → Sg → Prop} {S : Sc} {L : List Nat} {R : TR} {i w : Nat} (h : atC S σ0) (hS : okS S) (hL : hasS 14 L σ0) (hw : wfL L) (hok : okC L) (hi : i < L.length) (hs : stWC S L σ0 R σ) (hb : bndR R 1000) (hw15 : w < 15) (hp : prt w = prt (L.getD i 0 / 8)) (k : ∀ σ', stWC S L σ0 ((hearL w).foldl (tryA S L i) R) σ' → Q 0 σ') : KX2_hearAs X i w σ Q := by
  have h24 := hL.2.1
  have hn4 := nms_le w
  refine eX2_hearAs (rX2_hearAs_0 fun _ => s_isWithin (by omega) (by decide) fun _ => ?_)
  rw [if_pos (by omega)]
  refine ⟨by decide, fun _ => ⟨by omega, s_numbers hw15 fun _ => ⟨by omega, ?_⟩⟩, fun z => absurd z (by decide)⟩
  rw [show (if 1 < ((nms w : Nat) : Int) then ((nms w : Nat) : Int) else 1) = ((max 1 (nms w) : Nat) : Int) by split <;> omega]
  rw [show σ 15 ((i : Int).toNat) = ((L.getD i 0 : Nat) : Int) from hs.2.1 i hi]
  unfold hearL at k
  generalize hm : max 1 (nms w) = mx at *
  have hx := hok _ (getD_mem hi)
  have loop : ∀ d j : Nat, j + d = mx → ∀ (R : TR) (σ1 : Sg), bndR R (1000 + j) → (∀ c k, c ≠ 15 → c ≠ 16 → c ≠ 66 → ¬ (c = 65 ∧ (k = 1 ∨ k = 2)) → σ1 c k = σ0 c k) → (∀ t, t < L.length → t ≠ i → σ1 15 t = ((L.getD t 0 : Nat) : Int)) → (∀ s, s < 256 → σ1 66 s = R.1 s) → σ1 65 1 = R.2 → (∀ σ', stWC S L σ0 (((List.range' j d).map (fun v => 8 * w + v)).foldl (tryA S L i) R) σ' → Q 0 σ') → GX2_hearAs_32 X i w (L.getD i 0 : Nat) mx j σ1 Q := by
    intro d
    induction d with
    | zero =>
      intro j hj R σ1 hbR f1 f2 f3 f4 k2
      have : j = mx := by omega
      subst this
      refine rX2_hearAs_32 fun _ => ⟨by omega, by omega, fun _ => ⟨by omega, by omega, ?_⟩, fun z => by omega⟩
      refine k2 _ ⟨fun c k a b d e => by rw [up2_nc _ _ a]; exact f1 c k a b d e, fun t ht => ?_, fun s hs => by rw [up2_nc _ _ (by decide)]; exact f3 s hs, by rw [up2_nc _ _ (by decide)]; exact f4⟩
      rw [show ((i : Int).toNat) = i from rfl]
      by_cases q : t = i
      · subst q; rw [up2_s]
      · rw [up2_nk _ _ q]; exact f2 t ht q
    | succ d ih =>
      intro j hj R σ1 hbR f1 f2 f3 f4 k
      refine rX2_hearAs_32 fun _ => ⟨by omega, by omega, fun z => by omega, fun _ => ⟨by omega, by omega, fun z => ?_, fun z => ⟨by omega, by omega, ?_⟩⟩⟩
      · refine rX2_hearAs_94 fun _ => ih (j + 1) (by omega) R σ1 ⟨fun s => by have := hbR.1 s; omega, by have := hbR.2; omega, by have := hbR.2; omega⟩ f1 f2 f3 f4 fun σ' hs' => k σ' ?_
        rw [List.range'_succ, List.map_cons, List.foldl_cons, show tryA S L i R (8 * w + j) = R from if_pos (by omega)]
        exact hs'
      · have hne : ¬ 8 * w + j = L.getD i 0 := by omega
        rw [show (8 * (w : Int) + (j : Int)) = ((8 * w + j : Nat) : Int) by omega, show ((i : Int).toNat) = i from rfl]
        have hd : (8 * w + j) / 8 = w := by omega
        have hL' : hasS 14 (L.set i (8 * w + j)) (up2 σ1 15 i ((8 * w + j : Nat) : Int)) := by
          refine ⟨by rw [List.length_set, up2_nc _ _ (by decide), f1 14 2 (by decide) (by decide) (by decide) (by omega)]; exact hL.1, by rw [List.length_set]; exact h24, fun t ht => ?_⟩
          rw [List.length_set] at ht
          rw [getD_set hi]
          by_cases q : t = i
          · rw [if_pos q, q]; exact up2_s _ _ _ _
          · rw [if_neg q, show 14 + 1 = 15 from rfl, up2_nk _ _ q]; exact f2 t ht q
        refine s_meaning (h.frame' fun c k z => by rw [up2_nc _ _ (by omega)]; exact f1 c k (by omega) (by omega) (by omega) (by omega)) hS.2.1 hS.2.2.2.1 isSay_14 hL' (wfL_set hw hi (by rw [hd]; exact hp)) (okC_set hok (by omega)) fun σ2 hf2 _ => ?_
        have hm256 := mean_lt (S := S) (L := L.set i (8 * w + j)) hS.1
        have hto : tryA S L i R (8 * w + j) = (fun s => if s = meanL S (L.set i (8 * w + j)) then R.1 s + 1 else R.1 s, R.2 + 1) := if_neg hne
        have hbt := tryA_bnd (S := S) (L := L) (i := i) (y := 8 * w + j) hbR
        generalize meanL S (L.set i (8 * w + j)) = mm at *
        have g66 : ∀ s, s < 256 → σ2 66 s = R.1 s := fun s hs => by rw [hf2 66 s (by decide), up2_nc _ _ (by decide)]; exact f3 s hs
        have g65 : σ2 65 1 = R.2 := by rw [hf2 65 1 (by decide), up2_nc _ _ (by decide)]; exact f4
        rw [zand255 hm256, show ((mm : Int).toNat) = mm from rfl, g66 mm hm256, g65]
        have b1 := hbR.1 mm
        have b2 := hbR.2
        refine ⟨by omega, by omega, by omega, by omega, rX2_hearAs_94 fun _ => ih (j + 1) (by omega) (tryA S L i R (8 * w + j)) _ ?_ (fun c k a b d e => ?_) (fun t ht q => ?_) (fun s hs => ?_) ?_ fun σ' hs' => k σ' ?_⟩
        · rw [show (1000 + ((j + 1 : Nat) : Int)) = 1000 + (j : Int) + 1 by omega]; exact hbt
        · rw [up2_a _ _ (by omega), up2_nc _ _ d, hf2 c k (by omega), up2_nc _ _ a]; exact f1 c k a b d e
        · rw [up2_nc _ _ (by decide), up2_nc _ _ (by decide), hf2 15 t (by decide), up2_nk _ _ q]; exact f2 t ht q
        · rw [up2_nc _ _ (by decide), hto]
          show _ = (if s = mm then R.1 s + 1 else R.1 s)
          by_cases q : s = mm
          · rw [if_pos q, q, up2_s]
          · rw [if_neg q, up2_nk _ _ q]; exact g66 s hs
        · rw [up2_s, hto]
        · rw [List.range'_succ, List.map_cons, List.foldl_cons]; exact hs'
  refine loop mx 0 (by omega) R σ ⟨fun s => by have := hb.1 s; omega, by have := hb.2; omega, by have := hb.2; omega⟩ hs.1 (fun t ht _ => hs.2.1 t ht) hs.2.2.1 hs.2.2.2 fun σ' hs' => k σ' ?_
  rw [List.range_eq_range']; exact hs'

def altL (w : Nat) : List Nat := if w = 1 ∨ w = 2 then [8 * w, 8 * w + 1, 8 * w + 2, 8 * w + 3] else if w = 3 then [24, 25, 26] else if 5 ≤ w ∧ w ≤ 7 then [40, 48, 56] else if 8 ≤ w ∧ w ≤ 13 then [8 * (w - w % 2), 8 * (w - w % 2) + 8] else [8 * w]
def fstL (w : Nat) : Nat := if 5 ≤ w ∧ w ≤ 7 then 5 else if 8 ≤ w ∧ w ≤ 13 then w - w % 2 else w
def lstL (w : Nat) : Nat := if 5 ≤ w ∧ w ≤ 7 then 7 else if 8 ≤ w ∧ w ≤ 13 then w - w % 2 + 1 else w
theorem like_key : ∀ w : Nat, w < 15 → (stv 4).getD w 0 = ((fstL w : Nat) : Int) ∧ (stv 5).getD w 0 = ((lstL w : Nat) : Int) ∧ fstL w ≤ lstL w + 1 ∧ lstL w < 15 := by decide +kernel
theorem alt_key : ∀ w : Nat, w < 15 → altL w = ((List.range' (fstL w) (lstL w + 1 - fstL w)).flatMap hearL) := by decide +kernel
theorem altp_key : ∀ w : Nat, w < 15 → ∀ v : Nat, v < 15 → fstL w ≤ v → v ≤ lstL w → prt v = prt w := by decide +kernel
theorem altl_key : ∀ w : Nat, w < 15 → (altL w).length ≤ 4 := by decide +kernel
theorem hear_len : ∀ w : Nat, w < 15 → (hearL w).length ≤ 4 := by decide +kernel
theorem s_firstLike {X : Cx} {σ : Sg} {Q : Int → Sg → Prop} {w : Nat} (hw : w < 15) (k : Q (fstL w : Nat) σ) : KX10_firstLike X w σ Q := by
  refine eX10_firstLike (rX10_firstLike_0 fun _ => s_isWithin (by omega) (by decide) fun _ => ?_)
  rw [if_pos (by omega)]
  refine ⟨by decide, fun z => absurd z (by decide), fun _ => ⟨by omega, ?_⟩⟩
  rw [show ((w : Int).toNat) = w from rfl, (like_key w hw).1]; exact k
theorem s_lastLike {X : Cx} {σ : Sg} {Q : Int → Sg → Prop} {w : Nat} (hw : w < 15) (k : Q (lstL w : Nat) σ) : KX10_lastLike X w σ Q := by
  refine eX10_lastLike (rX10_lastLike_0 fun _ => s_isWithin (by omega) (by decide) fun _ => ?_)
  rw [if_pos (by omega)]
  refine ⟨by decide, fun z => absurd z (by decide), fun _ => ⟨by omega, ?_⟩⟩
  rw [show ((w : Int).toNat) = w from rfl, (like_key w hw).2.1]; exact k
def wrI (S : Sc) (L : List Nat) (i : Nat) (R : TR) : TR := (altL (L.getD i 0 / 8)).foldl (tryA S L i) R
def wrA (S : Sc) (L : List Nat) : Nat → TR → TR
  | 0, R => R
  | d + 1, R => wrA S L d (wrI S L (L.length - (d + 1)) R)
def bestT (T : Nat → Int) : Nat → Nat
  | 0 => 0
  | n + 1 => if T (bestT T n) < T n then n else bestT T n
theorem bestT_lt (T : Nat → Int) : ∀ n, bestT T n ≤ n
  | 0 => Nat.le_refl _
  | n + 1 => by
    unfold bestT
    have := bestT_lt T n
    split <;> omega
theorem wrI_bnd {S : Sc} {L : List Nat} {i : Nat} {R : TR} {b : Int} (hx : L.getD i 0 < 120) (h : bndR R b) : bndR (wrI S L i R) (b + 4) := by
  have := foldA_bnd (S := S) (L := L) (i := i) (altL (L.getD i 0 / 8)) R b h
  have l := altl_key (L.getD i 0 / 8) (by omega)
  exact ⟨fun s => by have := this.1 s; show 0 ≤ (wrI S L i R).1 s ∧ _; unfold wrI; omega, by have := this.2; unfold wrI; omega, by have := this.2; unfold wrI; omega⟩
def zeroR : TR := (fun _ => 0, 0)
theorem s_hear {X : Cx} {σ0 : Sg} {Q : Int → Sg → Prop} {S : Sc} {L : List Nat} (h : atC S σ0) (hS : okS S) (hL : hasS 14 L σ0) (hw : wfL L) (hok : okC L) (k : ∀ σ', (∀ c k, c ≠ 15 → c ≠ 16 → c ≠ 66 → c ≠ 65 → σ' c k = σ0 c k) → (∀ s, s < 256 → σ' 66 s = (wrA S L L.length zeroR).1 s) → σ' 65 1 = (wrA S L L.length zeroR).2 → σ' 65 2 = ((bestT (wrA S L L.length zeroR).1 256 : Nat) : Int) → Q 0 σ') : KX2_hear X σ0 Q := by
  have h24 := hL.2.1
  have l14 := hL.1
  refine eX2_hear (rX2_hear_0 fun _ => s_fill (c0 := 66) (nc0 := 256) rfl (by decide) (by decide) fun σa fa1 fa2 _ => ?_)
  have best : ∀ (R : TR) (v : Int) (σ1 : Sg), stWC S L σ0 R σ1 → (∀ σ', (∀ c k, c ≠ 15 → c ≠ 16 → c ≠ 66 → c ≠ 65 → σ' c k = σ0 c k) → (∀ s, s < 256 → σ' 66 s = R.1 s) → σ' 65 1 = R.2 → σ' 65 2 = ((bestT R.1 256 : Nat) : Int) → Q 0 σ') → GX2_hear_89 X v σ1 Q := by
    intro R v σ1 hs k
    refine rX2_hear_89 fun _ => ?_
    have loop : ∀ d j : Nat, j + d = 256 → ∀ σ2 : Sg, (∀ c k, ¬ (c = 65 ∧ k = 2) → σ2 c k = σ1 c k) → σ2 65 2 = ((bestT R.1 j : Nat) : Int) → 0 < j → GX2_hear_96 X j σ2 Q := by
      intro d
      induction d with
      | zero =>
        intro j hj σ2 hf e _
        have : j = 256 := by omega
        subst this
        exact rX2_hear_96 fun _ => ⟨by decide, fun _ => k σ2 (fun c k a b d e => by rw [hf c k (by omega)]; exact hs.1 c k a b d (by omega)) (fun s hs' => by rw [hf 66 s (by omega)]; exact hs.2.2.1 s hs') (by rw [hf 65 1 (by omega)]; exact hs.2.2.2) e, fun z => absurd z (by decide)⟩
      | succ d ih =>
        intro j hj σ2 hf e hj0
        have hbl := bestT_lt R.1 j
        have e66 : ∀ s, s < 256 → σ2 66 s = R.1 s := fun s hs' => by rw [hf 66 s (by omega)]; exact hs.2.2.1 s hs'
        refine rX2_hear_96 fun _ => ⟨by omega, fun z => by omega, fun _ => ⟨by omega, ?_⟩⟩
        rw [e, zand255 (by omega), show ((j : Int).toNat) = j from rfl, show (((bestT R.1 j : Nat) : Int).toNat) = bestT R.1 j from rfl, e66 _ (by omega), e66 _ (by omega)]
        refine ⟨by omega, fun z => rX2_hear_130 fun _ => ih (j + 1) (by omega) σ2 hf ?_ (by omega), fun z => ⟨by omega, rX2_hear_130 fun _ => ih (j + 1) (by omega) _ (fun c k y => by rw [up2_a _ _ y]; exact hf c k y) ?_ (by omega)⟩⟩
        · rw [e]; congr 1
          show _ = (if R.1 (bestT R.1 j) < R.1 j then j else bestT R.1 j)
          rw [if_neg (by omega)]
        · rw [up2_s]; congr 1
          show _ = (if R.1 (bestT R.1 j) < R.1 j then j else bestT R.1 j)
          rw [if_pos z]
    refine loop 255 1 (by omega) _ (fun c k y => up2_a _ _ y) ?_ (by decide)
    rw [up2_s]
    show (0 : Int) = ((if R.1 0 < R.1 0 then 0 else 0 : Nat) : Int)
    rw [if_neg (by omega)]; rfl
  have outer : ∀ d i : Nat, i + d = L.length → ∀ (R : TR) (σ1 : Sg), bndR R (4 * i) → stWC S L σ0 R σ1 → (∀ σ', (∀ c k, c ≠ 15 → c ≠ 16 → c ≠ 66 → c ≠ 65 → σ' c k = σ0 c k) → (∀ s, s < 256 → σ' 66 s = (wrA S L d R).1 s) → σ' 65 1 = (wrA S L d R).2 → σ' 65 2 = ((bestT (wrA S L d R).1 256 : Nat) : Int) → Q 0 σ') → GX2_hear_15 X i σ1 Q := by
    intro d
    induction d with
    | zero =>
      intro i hi R σ1 hb hs k
      have e : σ1 14 2 = (L.length : Int) := by rw [hs.1 14 2 (by decide) (by decide) (by decide) (by omega)]; exact l14
      exact rX2_hear_15 fun _ => ⟨by omega, fun _ => best R _ σ1 hs k, fun z => by omega⟩
    | succ d ih =>
      intro i hi R σ1 hb hs k
      have e : σ1 14 2 = (L.length : Int) := by rw [hs.1 14 2 (by decide) (by decide) (by decide) (by omega)]; exact l14
      have hx := hok _ (getD_mem (show i < L.length by omega))
      have k' : ∀ σ', (∀ c k, c ≠ 15 → c ≠ 16 → c ≠ 66 → c ≠ 65 → σ' c k = σ0 c k) → (∀ s, s < 256 → σ' 66 s = (wrA S L d (wrI S L i R)).1 s) → σ' 65 1 = (wrA S L d (wrI S L i R)).2 → σ' 65 2 = ((bestT (wrA S L d (wrI S L i R)).1 256 : Nat) : Int) → Q 0 σ' := by
        unfold wrA at k
        rw [show L.length - (d + 1) = i by omega] at k
        exact k
      refine rX2_hear_15 fun _ => ⟨by omega, fun z => by omega, fun _ => ⟨by omega, fun z => by omega, fun _ => ⟨by omega, ?_⟩⟩⟩
      rw [show σ1 15 ((i : Int).toNat) = ((L.getD i 0 : Nat) : Int) from hs.2.1 i (by omega), shr3 (by omega)]
      have hw15 : L.getD i 0 / 8 < 15 := by omega
      refine s_firstLike hw15 fun _ => ?_
      have lk := like_key _ hw15
      have hbI := wrI_bnd (S := S) (L := L) (i := i) hx hb
      have inner : ∀ e v : Nat, v + e = lstL (L.getD i 0 / 8) + 1 → fstL (L.getD i 0 / 8) ≤ v → ∀ (R : TR) (σ2 : Sg), bndR R (4 * i + 4 * (v - fstL (L.getD i 0 / 8) : Nat)) → stWC S L σ0 R σ2 → (∀ σ', stWC S L σ0 (((List.range' v e).flatMap hearL).foldl (tryA S L i) R) σ' → GX2_hear_15 X ((i : Int) + 1) σ' Q) → GX2_hear_50 X i (L.getD i 0 : Nat) ((L.getD i 0 / 8 : Nat) : Int) v σ2 Q := by
        intro e
        induction e with
        | zero =>
          intro v hv hfv R σ2 hbR hs2 k2
          refine rX2_hear_50 fun _ => s_lastLike hw15 fun _ => ⟨by omega, by omega, fun z => ⟨by omega, by omega, k2 _ ?_⟩, fun z => by omega⟩
          refine ⟨fun c k a b d e => by rw [up2_nc _ _ a]; exact hs2.1 c k a b d e, fun t ht => ?_, fun s hs' => by rw [up2_nc _ _ (by decide)]; exact hs2.2.2.1 s hs', by rw [up2_nc _ _ (by decide)]; exact hs2.2.2.2⟩
          rw [show ((i : Int).toNat) = i from rfl]
          by_cases q : t = i
          · subst q; rw [up2_s]
          · rw [up2_nk _ _ q]; exact hs2.2.1 t ht
        | succ e ihe =>
          intro v hv hfv R σ2 hbR hs2 k2
          have hl := hear_len v (by omega)
          have hfl : lstL (L.getD i 0 / 8) < 15 := lk.2.2.2
          refine rX2_hear_50 fun _ => s_lastLike hw15 fun _ => ⟨by omega, by omega, fun z => by omega, fun z => ?_⟩
          refine s_hearAs h hS hL hw hok (by omega) hs2 ⟨fun s => by have := hbR.1 s; omega, by have := hbR.2; omega, by have := hbR.2; omega⟩ (by omega) (altp_key _ hw15 v (by omega) hfv (by omega)) fun σ3 hs3 _ => ?_
          refine ihe (v + 1) (by omega) (by omega) _ σ3 ?_ hs3 fun σ' hs' => k2 σ' ?_
          · have := foldA_bnd (S := S) (L := L) (i := i) (hearL v) R _ hbR
            exact ⟨fun s => by have := this.1 s; omega, by have := this.2; omega, by have := this.2; omega⟩
          · rw [List.range'_succ, List.flatMap_cons, List.foldl_append]; exact hs'
      refine inner (lstL (L.getD i 0 / 8) + 1 - fstL (L.getD i 0 / 8)) (fstL (L.getD i 0 / 8)) (by omega) (Nat.le_refl _) R σ1 ⟨fun s => by have := hb.1 s; omega, by have := hb.2; omega, by have := hb.2; omega⟩ hs fun σ' hs' => ?_
      rw [← alt_key _ hw15] at hs'
      exact ih (i + 1) (by omega) (wrI S L i R) σ' ⟨fun s => by have := hbI.1 s; omega, by have := hbI.2; omega, by have := hbI.2; omega⟩ hs' k'
  refine outer L.length 0 (by omega) zeroR _ ⟨fun s => ⟨Int.le_refl _, Int.le_refl _⟩, Int.le_refl _, Int.le_refl _⟩ ⟨fun c k a b d e => by rw [up2_a _ _ (by omega)]; exact fa1 c k d, fun i hi => by rw [up2_nc _ _ (by decide), fa1 15 i (by decide)]; exact hL.2.2 i hi, fun s hs => by rw [up2_nc _ _ (by decide)]; exact fa2 s hs, up2_s _ _ _ _⟩ k
