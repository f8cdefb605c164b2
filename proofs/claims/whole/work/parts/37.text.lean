/-! write, erase, name, hush, count -/
theorem InvC.text {CK : CKt} {A : AS} {m : Nat} {σ σ' : Sg} {b' : Nat → Int} {n' : Nat} (hCK : okCK CK) (hK : A.2.2.2.1.length ≤ 8) (h : InvC CK A m σ) (hf : ∀ c k, c < 69 → ¬ (c = 12 ∧ k = 2) → c ≠ 13 → σ' c k = σ c k) (h5 : txC σ' b' n') : InvC CK (A.1, A.2.1, (b', n'), A.2.2.2) (m + 1) σ' := by
  obtain ⟨i1, i2, i3, i4, i5, i6, i7, i8, i9⟩ := h
  obtain ⟨c1, c2, c3, c4⟩ := i9
  have g : ∀ c k, c < 69 → c ≠ 12 → c ≠ 13 → σ' c k = σ c k := fun c k a b d => hf c k a (by omega) d
  refine ⟨i1.frame' fun c k z => g c k (by omega) (by omega) (by omega), fun t a b => by rw [g 6 t (by omega) (by omega) (by omega), g 9 t (by omega) (by omega) (by omega), g 10 t (by omega) (by omega) (by omega)]; exact i2 t a b, by rw [g 1 2 (by omega) (by omega) (by omega)]; exact i3, fun u hu => by rw [g 11 u (by omega) (by omega) (by omega)]; exact i4 u hu, h5, ⟨by rw [g 0 10 (by omega) (by omega) (by omega)]; exact i6.1, fun k hk => ?_⟩, ⟨by rw [g 67 1 (by omega) (by omega) (by omega)]; exact i7.1, fun i hi => by rw [g 68 i (by omega) (by omega) (by omega)]; exact i7.2 i hi⟩, by rw [g 0 11 (by omega) (by omega) (by omega)]; omega, ?_⟩
  · have hk' : k < A.2.2.2.1.length := hk
    exact (i6.2 k hk).frame fun c j hc => g c j (by omega) (by omega) (by omega)
  · unfold cacheOK
    rw [g 42 8 (by omega) (by omega) (by omega), g 49 2 (by omega) (by omega) (by omega), g 0 11 (by omega) (by omega) (by omega)]
    have hh := hCK A.1 A.2.1 σ σ' fun c k a d => g c k (by omega) (by omega) (by omega)
    exact ⟨c1, c2, fun z => hh.1 (c3 z), fun z => hh.2 (c4 z)⟩
theorem InvM.text {A : AS} {σ σ' : Sg} {b' : Nat → Int} {n' : Nat} (h : InvM A σ) (hf : ∀ c k, 69 ≤ c → ¬ (c = 69 ∧ k = 8) → c ≠ 77 → σ' c k = σ c k) (h5 : txM σ' b' n') : InvM (A.1, A.2.1, (b', n'), A.2.2.2) σ' := by
  obtain ⟨i1, i2, i3, i4, i5, i6⟩ := h
  refine ⟨i1.frame fun c k z => hf c k (by omega) (by omega) (by omega), fun t a b => by rw [hf 73 t (by decide) (by omega) (by omega), hf 75 t (by decide) (by omega) (by omega)]; exact i2 t a b, fun u hu => by rw [hf 76 u (by omega) (by omega) (by omega)]; exact i3 u hu, h5, ⟨by rw [hf 69 20 (by omega) (by omega) (by omega)]; exact i5.1, fun k hk => ?_⟩, ⟨by rw [hf 69 39 (by omega) (by omega) (by omega)]; exact i6.1, fun i hi => by rw [hf 98 i (by omega) (by omega) (by omega)]; exact i6.2 i hi⟩⟩
  rw [hf 81 k (by decide) (by omega) (by omega)]
  refine ⟨(i5.2 k hk).1, fun i hi => ?_⟩
  rw [hf 82 _ (by decide) (by omega) (by omega), hf 83 _ (by decide) (by omega) (by omega)]
  exact (i5.2 k hk).2 i hi
def opErase (A : AS) : Int × AS := ((A.2.2.1.2 : Int), (A.1, A.2.1, (A.2.2.1.1, 0), A.2.2.2))
theorem c_erase {CK : CKt} {X : Cx} {A : AS} {m : Nat} {σ : Sg} (hCK : okCK CK) (h : InvC CK A m σ) (hA : okA A) : doesC CK m (opErase A) σ (KX11_erase X σ) := by
  intro Q K
  have i5 := h.2.2.2.2.1
  refine eX11_erase (rX11_erase_0 fun _ => eX7_clear (rX7_clear_0 fun _ _ => ?_))
  rw [i5.1]
  exact K _ (fun c k z => up2_nc _ _ (by omega)) (h.text hCK hA.2.2.1.1 (fun c k _ z _ => up2_a _ _ z) ⟨up2_s _ _ _ _, by omega, fun i hi => by omega⟩)
theorem m_erase {X : Cx} {A : AS} {σ : Sg} (h : InvM A σ) : doesM (opErase A) σ (KX12_erase X σ) := by
  intro Q K
  have i5 := h.2.2.2.1
  refine eX12_erase (rX12_erase_0 fun _ => ?_)
  rw [i5.1]
  exact K _ (fun c k z => up2_nc _ _ (by omega)) (h.text (fun c k _ z _ => up2_a _ _ z) ⟨up2_s _ _ _ _, by omega, fun i hi => by omega⟩)
def bv (w : Int) (i : Nat) : Int := jtoi (jand (jshr w (8 * (i : Int))) 255)
theorem bv_rng (w : Int) (i : Nat) : 0 ≤ bv w i ∧ bv w i < 256 := by
  unfold bv jand jtoi
  generalize gJ (jshr w (8 * (i : Int))) = y
  rw [gJ_of]
  have e : (y &&& gJ 255).toInt = ((y.toBitVec.toNat &&& 255 : Nat) : Int) := by
    have e1 : (y &&& gJ 255).toBitVec.toNat = (y.toBitVec.toNat &&& 255) := by
      rw [Int64.toBitVec_and, BitVec.toNat_and]; rfl
    have l : (y.toBitVec.toNat &&& 255) ≤ 255 := Nat.and_le_right
    show (y &&& gJ 255).toBitVec.toInt = _
    rw [BitVec.toInt_eq_toNat_of_lt (by omega), e1]
  have l : (y.toBitVec.toNat &&& 255) ≤ 255 := Nat.and_le_right
  have e2 : (y &&& gJ 255).toInt32.toInt = (y &&& gJ 255).toInt := by
    rw [Int64.toInt_toInt32, e]
    exact Int.bmod_eq_of_le (by omega) (by omega)
  rw [e2, e]
  omega
def wrT (b : Nat → Int) (n : Nat) (w : Int) : Nat → Int := fun i => if i < n then b i else bv w (i - n)
def opWrite (A : AS) (w : Int) (n : Int) : Int × AS :=
  if 1 ≤ n ∧ n ≤ 8 then (if (A.2.2.1.2 : Int) + n ≤ 160 then ((A.2.2.1.2 : Int) + n, (A.1, A.2.1, (wrT A.2.2.1.1 A.2.2.1.2 w, A.2.2.1.2 + n.toNat), A.2.2.2)) else (-5, A)) else (-3, A)
theorem c_write {CK : CKt} {X : Cx} {A : AS} {m : Nat} {σ : Sg} {w n : Int} (hCK : okCK CK) (h : InvC CK A m σ) (hA : okA A) (hn : inI n) : doesC CK m (opWrite A w n) σ (KX11_write X w n σ) := by
  intro Q K
  have i5 := h.2.2.2.2.1
  unfold opWrite at K
  have out : ¬ (1 ≤ n ∧ n ≤ 8) → Q (-3) σ := fun z => by
    rw [if_neg z] at K; exact K σ (fun _ _ _ => rfl) h.more
  refine eX11_write (rX11_write_0 fun _ => ⟨hn, fun z => out (by omega), fun z1 => ⟨hn, fun z8 => ?_, fun z => out (by omega)⟩⟩)
  rw [if_pos ⟨z1, z8⟩] at K
  refine eX7_hasRoomFor (rX7_hasRoomFor_0 fun _ => ?_)
  obtain ⟨l1, l2, l3⟩ := i5
  rw [l1]
  refine ⟨by omega, fun z _ => ?_, fun z _ => ?_⟩
  · rw [if_neg (by omega)] at K
    exact ⟨by decide, fun _ => K σ (fun _ _ _ => rfl) h.more, fun y => absurd rfl y⟩
  · rw [if_pos z] at K
    refine ⟨by decide, fun y => absurd y (by decide), fun _ => eX7_append (rX7_append_0 fun _ => ?_)⟩
    obtain ⟨k, rfl⟩ : ∃ k : Nat, n = k := ⟨n.toNat, by omega⟩
    rw [show ((k : Int).toNat) = k from rfl] at K
    generalize A.2.2.1.2 = len at *
    have loop : ∀ d i : Nat, i + d = k → ∀ σ1 : Sg, (∀ c k, ¬ (c = 12 ∧ k = 2) → c ≠ 13 → σ1 c k = σ c k) → txC σ1 (wrT A.2.2.1.1 len w) (len + i) → GX7_append_3 X w k i σ1 (fun r10 σ11 => Rng σ11 → Q r10 σ11) := by
      intro d
      induction d with
      | zero =>
        intro i hi σ1 hf ht
        have : i = k := by omega
        subst this
        refine rX7_append_3 fun _ => ⟨by omega, by omega, fun _ _ => ?_, fun z => by omega⟩
        rw [ht.1, show (((len + i : Nat) : Int)) = (len : Int) + i by omega]
        exact K σ1 (fun c k z => hf c k (by omega) (by omega)) (h.text hCK hA.2.2.1.1 (fun c k _ z1 z2 => hf c k z1 z2) ht)
      | succ d ih =>
        intro i hi σ1 hf ht
        have e := ht.1
        have br := bv_rng w i
        refine rX7_append_3 fun _ => ⟨by omega, by omega, fun z => by omega, fun _ => ⟨fun z => by omega, fun _ => ⟨by omega, br, by omega, br, ?_⟩⟩⟩
        rw [e, show (((len + i : Nat) : Int).toNat) = len + i from rfl]
        refine ih (i + 1) (by omega) _ (fun c k z1 z2 => by rw [up2_nc _ _ z2, up2_a _ _ z1]; exact hf c k z1 z2) ⟨by rw [up2_nc _ _ (by decide), up2_s]; omega, by omega, fun j hj => ?_⟩
        by_cases q : j = len + i
        · subst q
          rw [up2_s]
          have e2 : wrT A.2.2.1.1 len w (len + i) = bv w i := by
            show (if len + i < len then _ else bv w (len + i - len)) = _
            rw [if_neg (by omega), show len + i - len = i by omega]
          rw [e2]
          exact ⟨rfl, br⟩
        · rw [up2_nk _ _ q, up2_nc _ _ (by decide)]
          exact ht.2.2 j (by omega)
    refine loop k 0 (by omega) σ (fun _ _ _ _ => rfl) ⟨l1, l2, fun j hj => ?_⟩
    have e2 : wrT A.2.2.1.1 len w j = A.2.2.1.1 j := if_pos (by omega)
    rw [e2]
    exact l3 j (by omega)
theorem m_write {X : Cx} {A : AS} {σ : Sg} {w n : Int} (h : InvM A σ) (hn : inI n) : doesM (opWrite A w n) σ (KX12_write X w n σ) := by
  intro Q K
  have i5 := h.2.2.2.1
  unfold opWrite at K
  refine eX12_write (rX12_write_0 fun _ => m_in hn (by decide) (by decide) fun _ => ?_)
  by_cases q : 1 ≤ n ∧ n ≤ 8
  · rw [if_pos q] at K ⊢
    obtain ⟨l1, l2, l3⟩ := i5
    rw [l1]
    refine ⟨by decide, fun _ => ⟨by omega, fun z => ?_, fun z => ?_⟩, fun z => absurd z (by decide)⟩
    · rw [if_pos z] at K
      obtain ⟨k, rfl⟩ : ∃ k : Nat, n = k := ⟨n.toNat, by omega⟩
      rw [show ((k : Int).toNat) = k from rfl] at K
      generalize A.2.2.1.2 = len at *
      have loop : ∀ d i : Nat, i + d = k → ∀ σ1 : Sg, (∀ c k, c ≠ 77 → σ1 c k = σ c k) → (∀ j, j < len + i → σ1 77 j = wrT A.2.2.1.1 len w j ∧ 0 ≤ wrT A.2.2.1.1 len w j ∧ wrT A.2.2.1.1 len w j < 256) → GX12_write_31 X w k i σ1 Q := by
        intro d
        induction d with
        | zero =>
          intro i hi σ1 hf ht
          have : i = k := by omega
          subst this
          have e := hf 69 8 (by decide)
          rw [l1] at e
          refine rX12_write_31 fun _ => ⟨by omega, by omega, fun _ => ?_, fun z => by omega⟩
          rw [e]
          refine ⟨by omega, K _ (fun c k z => by rw [up2_nc _ _ (by omega)]; exact hf c k (by omega)) (h.text (fun c k _ z1 z2 => by rw [up2_a _ _ z1]; exact hf c k z2) ⟨by rw [up2_s]; omega, by omega, fun j hj => ?_⟩)⟩
          rw [up2_nc _ _ (by decide)]
          exact ht j hj
        | succ d ih =>
          intro i hi σ1 hf ht
          have e := hf 69 8 (by decide)
          rw [l1] at e
          have br := bv_rng w i
          refine rX12_write_31 fun _ => ⟨by omega, by omega, fun z => by omega, fun _ => ?_⟩
          rw [e, show ((len : Int) + (i : Int)).toNat = len + i by omega]
          refine ⟨by omega, ih (i + 1) (by omega) _ (fun c k z => by rw [up2_nc _ _ z]; exact hf c k z) fun j hj => ?_⟩
          by_cases q : j = len + i
          · subst q
            rw [up2_s]
            have e2 : wrT A.2.2.1.1 len w (len + i) = bv w i := by
              show (if len + i < len then _ else bv w (len + i - len)) = _
              rw [if_neg (by omega), show len + i - len = i by omega]
            rw [e2]
            exact ⟨rfl, br⟩
          · rw [up2_nk _ _ q]
            exact ht j (by omega)
      refine loop k 0 (by omega) σ (fun _ _ _ => rfl) fun j hj => ?_
      have e2 : wrT A.2.2.1.1 len w j = A.2.2.1.1 j := if_pos (by omega)
      rw [e2]
      exact l3 j (by omega)
    · rw [if_neg (by omega)] at K
      exact K σ (fun _ _ _ => rfl) h
  · rw [if_neg q] at K ⊢
    exact ⟨by decide, fun z => absurd rfl z, fun _ => K σ (fun _ _ _ => rfl) h⟩
/-! names -/
def opName (A : AS) (t : Int) : Int × AS := if isThingN A.1 t then (if A.2.2.2.2.length < 12 then (((A.2.2.2.2.length + 1 : Nat) : Int), (A.1, A.2.1, A.2.2.1, A.2.2.2.1, A.2.2.2.2 ++ [t.toNat])) else (-5, A)) else (-2, A)
def opHush (A : AS) : Int × AS := ((A.2.2.2.2.length : Int), (A.1, A.2.1, A.2.2.1, A.2.2.2.1, []))
def opCount (A : AS) (w : Int) : Int × AS := (if w = 0 then (A.1.1 : Int) else if w = 1 then (tsum A.1 : Int) else if w = 2 then (A.2.2.1.2 : Int) else if w = 3 then (A.2.2.2.1.length : Int) else if w = 4 then (A.2.2.2.2.length : Int) else -3, A)
theorem opName_ok {A : AS} {t : Int} (h : okA A) : okA (opName A t).2 := by
  unfold opName
  split
  · split
    · rename_i q q12
      obtain ⟨a, b, c, d, e⟩ := h
      refine ⟨a, b, c, by rw [List.length_append]; exact q12, fun u hu => ?_⟩
      rcases List.mem_append.mp hu with hu | hu
      · exact e u hu
      · rw [List.mem_singleton.mp hu]; show t.toNat < A.1.1; omega
    · exact h
  · exact h
theorem opHush_ok {A : AS} (h : okA A) : okA (opHush A).2 := ⟨h.1, h.2.1, h.2.2.1, Nat.zero_le _, fun u hu => by cases hu⟩
theorem InvC.names {CK : CKt} {A : AS} {m : Nat} {σ σ' : Sg} {N : List Nat} (hCK : okCK CK) (hK : A.2.2.2.1.length ≤ 8) (h : InvC CK A m σ) (hf : ∀ c k, c < 69 → ¬ (c = 67 ∧ k = 1) → c ≠ 68 → σ' c k = σ c k) (h5 : talkC N σ') : InvC CK (A.1, A.2.1, A.2.2.1, A.2.2.2.1, N) (m + 1) σ' := by
  obtain ⟨i1, i2, i3, i4, i5, i6, i7, i8, i9⟩ := h
  obtain ⟨c1, c2, c3, c4⟩ := i9
  have g : ∀ c k, c < 67 → σ' c k = σ c k := fun c k a => hf c k (by omega) (by omega) (by omega)
  refine ⟨i1.frame' fun c k z => g c k (by omega), fun t a b => by rw [g 6 t (by omega), g 9 t (by omega), g 10 t (by omega)]; exact i2 t a b, by rw [g 1 2 (by omega)]; exact i3, fun u hu => by rw [g 11 u (by omega)]; exact i4 u hu, ⟨by rw [g 12 2 (by omega)]; exact i5.1, i5.2.1, fun i hi => by rw [g 13 i (by omega)]; exact i5.2.2 i hi⟩, ⟨by rw [g 0 10 (by omega)]; exact i6.1, fun k hk => ?_⟩, h5, by rw [g 0 11 (by omega)]; omega, ?_⟩
  · have hk' : k < A.2.2.2.1.length := hk
    exact (i6.2 k hk).frame fun c j hc => g c j (by omega)
  · unfold cacheOK
    rw [g 42 8 (by omega), g 49 2 (by omega), g 0 11 (by omega)]
    have hh := hCK A.1 A.2.1 σ σ' fun c k a d => g c k (by omega)
    exact ⟨c1, c2, fun z => hh.1 (c3 z), fun z => hh.2 (c4 z)⟩
theorem InvM.names {A : AS} {σ σ' : Sg} {N : List Nat} (h : InvM A σ) (hf : ∀ c k, 69 ≤ c → ¬ (c = 69 ∧ k = 39) → c ≠ 98 → σ' c k = σ c k) (h5 : talkM N σ') : InvM (A.1, A.2.1, A.2.2.1, A.2.2.2.1, N) σ' := by
  obtain ⟨i1, i2, i3, i4, i5, i6⟩ := h
  refine ⟨i1.frame fun c k z => hf c k (by omega) (by omega) (by omega), fun t a b => by rw [hf 73 t (by decide) (by omega) (by omega), hf 75 t (by decide) (by omega) (by omega)]; exact i2 t a b, fun u hu => by rw [hf 76 u (by omega) (by omega) (by omega)]; exact i3 u hu, i4.frame fun c k z => hf c k (by omega) (by omega) (by omega), ⟨by rw [hf 69 20 (by omega) (by omega) (by omega)]; exact i5.1, fun k hk => ?_⟩, h5⟩
  rw [hf 81 k (by decide) (by omega) (by omega)]
  refine ⟨(i5.2 k hk).1, fun i hi => ?_⟩
  rw [hf 82 _ (by decide) (by omega) (by omega), hf 83 _ (by decide) (by omega) (by omega)]
  exact (i5.2 k hk).2 i hi
theorem c_name {CK : CKt} {X : Cx} {A : AS} {m : Nat} {σ : Sg} {t : Int} (hCK : okCK CK) (h : InvC CK A m σ) (hA : okA A) (ht : inI t) : doesC CK m (opName A t) σ (KX11_name X t σ) := by
  intro Q K
  have h8 := hA.1.1
  have i7 := h.2.2.2.2.2.2.1
  have l12 := hA.2.2.2.1
  unfold opName at K
  refine eX11_name (rX11_name_0 fun _ => s_has h.1.1 h8 ht fun _ => ?_)
  by_cases q : 0 ≤ t ∧ t < (A.1.1 : Int)
  · rw [if_pos q] at K ⊢
    refine ⟨by decide, fun _ => ?_, fun z => absurd z (by decide)⟩
    rw [i7.1]
    refine ⟨fun z => ?_, fun z => eX6_add (rX6_add_0 fun _ => ?_)⟩
    · rw [if_neg (by omega)] at K
      exact K σ (fun _ _ _ => rfl) h.more
    · rw [if_pos (by omega)] at K
      rw [i7.1]
      refine ⟨fun z => by omega, fun _ => ⟨by omega, by omega, ht, fun _ => ?_⟩⟩
      refine K _ (fun c k z => by rw [up2_nc _ _ (by omega), up2_nc _ _ (by omega)]) (h.names hCK hA.2.2.1.1 (fun c k _ z1 z2 => by rw [up2_nc _ _ z2, up2_a _ _ z1]) ⟨by rw [up2_nc _ _ (by decide), up2_s, List.length_append]; rfl, fun i hi => ?_⟩)
      rw [List.length_append] at hi
      have hi' : i < A.2.2.2.2.length + 1 := hi
      rw [show (((A.2.2.2.2.length : Nat) : Int).toNat) = A.2.2.2.2.length from rfl]
      rcases Nat.lt_succ_iff_lt_or_eq.mp hi' with y | rfl
      · rw [up2_nk _ _ (by omega), up2_nc _ _ (by decide), getD_app y]; exact i7.2 i y
      · rw [up2_s, getD_app1]; omega
  · rw [if_neg q] at K ⊢
    exact ⟨by decide, fun z => absurd rfl z, fun _ => K σ (fun _ _ _ => rfl) h.more⟩
theorem m_name {X : Cx} {A : AS} {σ : Sg} {t : Int} (h : InvM A σ) (hA : okA A) (ht : inI t) : doesM (opName A t) σ (KX12_name X t σ) := by
  intro Q K
  have h8 := hA.1.1
  have i7 := h.2.2.2.2.2
  have l12 := hA.2.2.2.1
  unfold opName at K
  refine eX12_name (rX12_name_0 fun _ => m_isThing h.1.1 h8 ht fun _ => ?_)
  by_cases q : 0 ≤ t ∧ t < (A.1.1 : Int)
  · rw [if_pos q] at K ⊢
    refine ⟨by decide, fun _ => ?_, fun z => absurd z (by decide)⟩
    rw [i7.1]
    refine ⟨fun z => ?_, fun z => ?_⟩
    · rw [if_pos (by omega)] at K
      refine ⟨by omega, ht, by omega, ?_⟩
      refine K _ (fun c k z => by rw [up2_nc _ _ (by omega), up2_nc _ _ (by omega)]) (h.names (fun c k _ z1 z2 => by rw [up2_a _ _ z1, up2_nc _ _ z2]) ⟨by rw [up2_s, List.length_append]; rfl, fun i hi => ?_⟩)
      rw [List.length_append] at hi
      have hi' : i < A.2.2.2.2.length + 1 := hi
      rw [show (((A.2.2.2.2.length : Nat) : Int).toNat) = A.2.2.2.2.length from rfl]
      rcases Nat.lt_succ_iff_lt_or_eq.mp hi' with y | rfl
      · rw [up2_nc _ _ (by decide), up2_nk _ _ (by omega), getD_app y]; exact i7.2 i y
      · rw [up2_nc _ _ (by decide), up2_s, getD_app1]; omega
    · rw [if_neg (by omega)] at K
      exact K σ (fun _ _ _ => rfl) h
  · rw [if_neg q] at K ⊢
    exact ⟨by decide, fun z => absurd rfl z, fun _ => K σ (fun _ _ _ => rfl) h⟩
theorem c_hush {CK : CKt} {X : Cx} {A : AS} {m : Nat} {σ : Sg} (hCK : okCK CK) (h : InvC CK A m σ) (hA : okA A) : doesC CK m (opHush A) σ (KX11_hush X σ) := by
  intro Q K
  have i7 := h.2.2.2.2.2.2.1
  refine eX11_hush (rX11_hush_0 fun _ => ?_)
  rw [i7.1]
  exact K _ (fun c k z => up2_nc _ _ (by omega)) (h.names hCK hA.2.2.1.1 (fun c k _ z1 z2 => up2_a _ _ z1) ⟨up2_s _ _ _ _, fun i hi => by cases hi⟩)
theorem m_hush {X : Cx} {A : AS} {σ : Sg} (h : InvM A σ) : doesM (opHush A) σ (KX12_hush X σ) := by
  intro Q K
  have i7 := h.2.2.2.2.2
  refine eX12_hush (rX12_hush_0 fun _ => ?_)
  rw [i7.1]
  exact K _ (fun c k z => up2_nc _ _ (by omega)) (h.names (fun c k _ z1 z2 => up2_a _ _ z1) ⟨up2_s _ _ _ _, fun i hi => by cases hi⟩)
theorem c_count {CK : CKt} {X : Cx} {A : AS} {m : Nat} {σ : Sg} {w : Int} (h : InvC CK A m σ) (hw : inI w) : doesC CK m (opCount A w) σ (KX11_count X w σ) := by
  intro Q K
  have K := K σ (fun _ _ _ => rfl) h.more
  unfold opCount at K
  refine eX11_count (rX11_count_0 fun _ => ⟨hw, fun z => ?_, fun z => ?_, fun z => ?_, fun z => ?_, fun z => ?_, fun z => ?_⟩)
  · rw [h.1.1]; rw [if_pos z] at K; exact K
  · rw [h.2.2.1]; rw [if_neg (by omega), if_pos z] at K; exact K
  · rw [h.2.2.2.2.1.1]; rw [if_neg (by omega), if_neg (by omega), if_pos z] at K; exact K
  · rw [h.2.2.2.2.2.1.1]; rw [if_neg (by omega), if_neg (by omega), if_neg (by omega), if_pos z] at K; exact K
  · rw [h.2.2.2.2.2.2.1.1]; rw [if_neg (by omega), if_neg (by omega), if_neg (by omega), if_neg (by omega), if_pos z] at K; exact K
  · rw [if_neg (by omega), if_neg (by omega), if_neg (by omega), if_neg (by omega), if_neg (by omega)] at K; exact K
theorem m_count {X : Cx} {A : AS} {σ : Sg} {w : Int} (h : InvM A σ) (hA : okA A) (hw : inI w) : doesM (opCount A w) σ (KX12_count X w σ) := by
  intro Q K
  have K := K σ (fun _ _ _ => rfl) h
  unfold opCount at K
  refine eX12_count (rX12_count_0 fun _ => ⟨hw, fun z => ?_, fun z => m_tieMany h.1 hA.1.2.1 fun _ => ?_, fun z => ?_, fun z => ?_, fun z => ?_, fun z => ?_⟩)
  · rw [h.1.1]; rw [if_pos z] at K; exact K
  · rw [if_neg (by omega), if_pos z] at K; exact K
  · rw [h.2.2.2.1.1]; rw [if_neg (by omega), if_neg (by omega), if_pos z] at K; exact K
  · rw [h.2.2.2.2.1.1]; rw [if_neg (by omega), if_neg (by omega), if_neg (by omega), if_pos z] at K; exact K
  · rw [h.2.2.2.2.2.1]; rw [if_neg (by omega), if_neg (by omega), if_neg (by omega), if_neg (by omega), if_pos z] at K; exact K
  · rw [if_neg (by omega), if_neg (by omega), if_neg (by omega), if_neg (by omega), if_neg (by omega)] at K; exact K
