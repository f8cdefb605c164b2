/-! the reference: leftmost, made, meaning, costs -/
theorem left_is {S : Sc} {s t : Nat} (hap : apart S) (ht : t < S.1) (hb : s.testBit t = true) (hf : ∀ u, u < S.1 → s.testBit u = true → S.2 4 t ≤ S.2 4 u) : F_left S s = 2 ^ t := by
  apply Nat.eq_of_testBit_eq
  intro u
  unfold F_left
  rw [Nat.testBit_two_pow, bsN_bit]
  by_cases hu : u < S.1
  · by_cases hbu : s.testBit u = true
    · simp only [hu, hbu, decide_true, Bool.true_and]
      rw [Bool.eq_iff_iff, rng_at, decide_eq_true_iff]
      constructor
      · intro h
        have a := hf u hu hbu
        have b := h t ht
        simp [hb] at b
        exact hap t u ht hu (by omega)
      · rintro rfl w hw
        by_cases hbw : s.testBit w = true
        · have := hf w hw hbw; simp [hbw]; omega
        · simp [hbw]
    · have : ¬ t = u := fun q => hbu (q ▸ hb)
      simp [hbu, this]
  · have : ¬ t = u := by omega
    simp [hu, this]
theorem left_none {S : Sc} {s : Nat} (hf : ∀ t, t < S.1 → s.testBit t = false) : F_left S s = 0 := (bsN_zero _).mpr fun u hu => by simp [hf u hu]
theorem m_leftmost {X : Cx} {σ : Sg} {Q : Int → Sg → Prop} {S : Sc} {s : Nat} (h : atM S σ) (ho : okR S) (hap : apart S) (hs : s < 256) (k : Q (F_left S s : Nat) σ) : KX12_leftmost X s σ Q := by
  obtain ⟨hn, h8, hr⟩ := h
  refine eX12_leftmost (rX12_leftmost_0 fun _ => ?_)
  have loop : ∀ d i : Nat, i + d = S.1 → ∀ f : Int, ((f = -1 ∧ ∀ t, t < i → s.testBit t = false) ∨ ∃ t, t < S.1 ∧ s.testBit t = true ∧ f = (t : Int) ∧ ∀ u, u < i → s.testBit u = true → S.2 4 t ≤ S.2 4 u) → GX12_leftmost_4 X s f i σ Q := by
    intro d
    induction d with
    | zero =>
      intro i hi f hf
      have : i = S.1 := by omega
      subst this
      refine rX12_leftmost_4 fun _ => ⟨by omega, fun _ => ?_, fun h => by omega⟩
      rcases hf with ⟨rfl, hf⟩ | ⟨t, ht, hb, rfl, hf⟩
      · rw [left_none hf] at k
        exact ⟨by decide, fun h => absurd rfl h, fun _ => k⟩
      · rw [left_is hap ht hb hf] at k
        refine ⟨by omega, fun _ => ?_, fun h => by omega⟩
        rw [zshl_one (by omega)]; exact k
    | succ d ih =>
      intro i hi f hf
      have e : σ 74 ((i : Int).toNat) = S.2 4 i := (hr i (by omega)).2.2.2.2.1
      refine rX12_leftmost_4 fun _ => ⟨by omega, fun h => by omega, fun _ => ?_⟩
      rw [bit_is (by omega) (by omega), e]
      have keep : ((f = -1 ∧ ∀ t, t < i + 1 → s.testBit t = false) ∨ ∃ t, t < S.1 ∧ s.testBit t = true ∧ f = (t : Int) ∧ ∀ u, u < i + 1 → s.testBit u = true → S.2 4 t ≤ S.2 4 u) → GX12_leftmost_45 X s f i σ Q :=
        fun q => rX12_leftmost_45 fun _ => rX12_leftmost_46 fun _ => ih (i + 1) (by omega) f q
      have newb : s.testBit i = true → (∀ t, t < i → s.testBit t = true → S.2 4 i ≤ S.2 4 t) → GX12_leftmost_41 X s f i σ Q := fun hb hlt =>
        rX12_leftmost_41 fun _ => rX12_leftmost_46 fun _ => ih (i + 1) (by omega) i (Or.inr ⟨i, by omega, hb, rfl, fun u hu hbu => by
          rcases Nat.lt_succ_iff_lt_or_eq.mp hu with q | rfl
          · exact hlt u q hbu
          · omega⟩)
      refine ⟨fun hb => keep ?_, fun hb => ?_⟩
      · have hbf : s.testBit i = false := by simpa using hb
        rcases hf with ⟨h1, h3⟩ | ⟨t, ht, h1, h2, h4⟩
        · refine Or.inl ⟨h1, fun t ht => ?_⟩
          rcases Nat.lt_succ_iff_lt_or_eq.mp ht with q | rfl
          · exact h3 t q
          · exact hbf
        · refine Or.inr ⟨t, ht, h1, h2, fun u hu hbu => ?_⟩
          rcases Nat.lt_succ_iff_lt_or_eq.mp hu with q | rfl
          · exact h4 u q hbu
          · exact absurd hbu hb
      · rcases hf with ⟨rfl, h3⟩ | ⟨t, ht, h1, rfl, h4⟩
        · exact ⟨by decide, fun _ => newb hb (fun t ht htb => absurd htb (by rw [h3 t ht]; decide)), fun h => absurd rfl h⟩
        · have e2 : σ 74 ((t : Int).toNat) = S.2 4 t := (hr t ht).2.2.2.2.1
          refine ⟨by omega, fun h => by omega, fun _ => ⟨by omega, by omega, ?_⟩⟩
          rw [e2]
          refine ⟨fun hle => keep (Or.inr ⟨t, ht, h1, rfl, fun u hu hbu => ?_⟩), fun hlt => newb hb (fun u hu hbu => ?_)⟩
          · rcases Nat.lt_succ_iff_lt_or_eq.mp hu with q | rfl
            · exact h4 u q hbu
            · omega
          · have := h4 u hu hbu; omega
  exact loop S.1 0 (by omega) (-1) (Or.inl ⟨rfl, fun t ht => by omega⟩)
def F_made (S : Sc) (w a b : Nat) : Nat := if w = 5 ∨ w = 6 ∨ w = 7 then F_join w a b else F_turn S w a
theorem besS_lt {S : Sc} (h : S.1 ≤ 8) (t : Nat) : besS S t < 256 := bsN_256 h _
theorem m_made {X : Cx} {σ : Sg} {Q : Int → Sg → Prop} {S : Sc} {w a b : Nat} (h : atM S σ) (ho : okR S) (hB : okB2 S) (hap : apart S) (hw : 4 ≤ w ∧ w < 15) (ha : a < 256) (hb : b < 256) (k : Q (F_made S w a b : Nat) σ) : KX12_made X w a b σ Q := by
  have h8 := h.2.1
  obtain ⟨hn, -, hr⟩ := id h
  unfold F_made at k
  refine eX12_made (rX12_made_0 fun _ => ⟨by omega, fun q => ?_, fun q => ?_, fun q => ?_, fun q => ?_, fun q => ?_, fun q => ?_, fun q => ?_, fun q => ?_, fun q => ?_, fun q => ?_, fun q => ?_⟩)
  · have q : w = 4 := by omega
    subst q
    refine m_every h fun _ => ?_
    rw [zandn_nat (Nat.lt_trans (F_all_lt h8) (by decide)) (by omega)]
    exact k
  · have q : w = 5 := by omega
    subst q
    rw [zand_nat (by omega) (by omega)]; exact k
  · have q : w = 6 := by omega
    subst q
    rw [zor_nat (by omega) (by omega)]; exact k
  · have q : w = 7 := by omega
    subst q
    rw [zandn_nat (by omega) (by omega)]; exact k
  · have q : w = 8 := by omega
    subst q
    have loop : ∀ d i : Nat, i + d = S.1 → GX12_made_86 X (8 : Nat) a b ((bsN i (fun t => decide ((S.2 5 t).toNat &&& a ≠ 0)) : Nat) : Int) i σ Q := by
      intro d
      induction d with
      | zero =>
        intro i hi
        have : i = S.1 := by omega
        subst this
        exact rX12_made_86 fun _ => ⟨by omega, fun _ => k, fun h => by omega⟩
      | succ d ih =>
        intro i hi
        refine rX12_made_86 fun _ => ⟨by omega, fun h => by omega, fun _ => m_besides h ho (by omega) fun _ => ?_⟩
        have hbs := besS_lt h8 i
        have e5 : (S.2 5 i).toNat = besS S i := by rw [(hB i (by omega)).1]; rfl
        have hbb := bsN_lt (fun t => decide ((S.2 5 t).toNat &&& a ≠ 0)) i
        have h2 : 2 ^ i ≤ 2 ^ 8 := Nat.pow_le_pow_right (by decide) (by omega)
        rw [zand_nat (by omega) (by omega)]
        refine ⟨fun q => rX12_made_116 fun _ => ?_, fun q => rX12_made_116 fun _ => ?_⟩
        · rw [zor_0 (by omega), ← bs_out (p := fun t => decide ((S.2 5 t).toNat &&& a ≠ 0)) (i := i) (by simp [e5]; omega)]
          exact ih (i + 1) (by omega)
        · rw [bs_in (p := fun t => decide ((S.2 5 t).toNat &&& a ≠ 0)) (by omega) (by simp [e5]; omega)]
          exact ih (i + 1) (by omega)
    exact loop S.1 0 (by omega)
  · have q : w = 9 := by omega
    subst q
    have loop : ∀ d i : Nat, i + d = S.1 → GX12_made_131 X (9 : Nat) a b ((bsN i (fun t => decide ((S.2 6 t).toNat &&& a ≠ 0)) : Nat) : Int) i σ Q := by
      intro d
      induction d with
      | zero =>
        intro i hi
        have : i = S.1 := by omega
        subst this
        exact rX12_made_131 fun _ => ⟨by omega, fun _ => k, fun h => by omega⟩
      | succ d ih =>
        intro i hi
        have b6 := (ho i (by omega)).2.2.2.2.2.2.1
        have e6 : σ 75 ((i : Int).toNat) = ((S.2 6 i).toNat : Int) := by rw [show σ 75 ((i : Int).toNat) = S.2 6 i from (hr i (by omega)).2.2.2.2.2]; omega
        have hbb := bsN_lt (fun t => decide ((S.2 6 t).toNat &&& a ≠ 0)) i
        have h2 : 2 ^ i ≤ 2 ^ 8 := Nat.pow_le_pow_right (by decide) (by omega)
        refine rX12_made_131 fun _ => ⟨by omega, fun h => by omega, fun _ => ⟨by omega, ?_⟩⟩
        rw [e6, zand_nat (by omega) (by omega)]
        refine ⟨fun q => rX12_made_162 fun _ => ?_, fun q => rX12_made_162 fun _ => ?_⟩
        · rw [zor_0 (by omega), ← bs_out (p := fun t => decide ((S.2 6 t).toNat &&& a ≠ 0)) (i := i) (by simp; omega)]
          exact ih (i + 1) (by omega)
        · rw [bs_in (p := fun t => decide ((S.2 6 t).toNat &&& a ≠ 0)) (by omega) (by simp; omega)]
          exact ih (i + 1) (by omega)
    exact loop S.1 0 (by omega)
  · have q : w = 10 := by omega
    subst q
    exact m_most h ho ha fun _ => k
  · have q : w = 11 := by omega
    subst q
    exact m_leastS h ho ha fun _ => k
  · have q : w = 12 := by omega
    subst q
    exact m_leftmost h ho hap ha fun _ => k
  · have q : w = 13 := by omega
    subst q
    refine m_leftmost h ho hap ha fun _ => ?_
    have hl := F_left_lt h8 a
    have := ndf_le a (F_left S a)
    rw [zandn_nat (by omega) (by omega)]
    exact m_leftmost h ho hap (by omega) fun _ => k
  · rw [if_neg (by omega)] at k
    unfold F_turn at k
    rw [if_neg (by omega), if_neg (by omega), if_neg (by omega), if_neg (by omega), if_neg (by omega), if_neg (by omega), if_neg (by omega)] at k
    unfold F_only at k
    have := pc8_le a
    refine m_bits ha fun _ => ⟨by omega, fun h => ?_, fun h => ?_⟩
    · rw [if_neg (by omega)] at k; exact k
    · rw [if_pos (by omega)] at k; exact k
/-- the reference's row of words holds these codes -/
def hasM (L : List Nat) (σ : Sg) : Prop := σ 69 16 = (L.length : Int) ∧ L.length ≤ 24 ∧ ∀ i, i < L.length → σ 78 i = ((L.getD i 0 / 8 : Nat) : Int) ∧ σ 79 i = ((L.getD i 0 % 8 : Nat) : Int)
theorem atM.frame {S : Sc} {σ σ' : Sg} (h : atM S σ) (hf : ∀ c k, (c = 69 ∧ k = 0) ∨ (70 ≤ c ∧ c ≤ 75) → σ' c k = σ c k) : atM S σ' := ⟨by rw [hf 69 0 (by omega)]; exact h.1, h.2.1, fun t ht => by
  rw [hf 70 t (by omega), hf 71 t (by omega), hf 72 t (by omega), hf 73 t (by omega), hf 74 t (by omega), hf 75 t (by omega)]
  exact h.2.2 t ht⟩
theorem prt0_lt {x : Nat} (h : prt (x / 8) = 0) : x < 32 := by
  unfold prt at h
  split at h
  · omega
  · split at h <;> omega
theorem m_meaning {X : Cx} {σ : Sg} {Q : Int → Sg → Prop} {S : Sc} {L : List Nat} (h : atM S σ) (ho : okR S) (hB : okB2 S) (hap : apart S) (hL : hasM L σ) (hw : wfL L) (hok : okC L) (k : ∀ σ', (∀ c j, c ≠ 80 → σ' c j = σ c j) → Q (meanL S L : Nat) σ') : KX12_meaning X σ Q := by
  obtain ⟨hl, h24, hcod⟩ := hL
  have loop : ∀ (i : Nat) (σ1 : Sg) (T : List Nat), i ≤ L.length → (∀ c j, c ≠ 80 → σ1 c j = σ c j) → T = evR S (L.drop i) → T.length + i ≤ L.length → (∀ j, j < T.length → σ1 80 (T.length - 1 - j) = ((T.getD j 0 : Nat) : Int)) → GX12_meaning_9 X T.length ((i : Int) + (-1)) σ1 Q := by
    intro i
    induction i with
    | zero =>
      intro σ1 T hi hf hT hTl hst
      refine rX12_meaning_9 fun _ => ⟨by omega, fun _ => ?_, fun h => by omega⟩
      have e := evR_len (S := S) L hw.1
      rw [hw.2] at e
      rw [List.drop_zero] at hT
      rw [← hT] at e
      have e1 : T.length = 1 := by omega
      have := hst 0 (by omega)
      rw [e1] at this
      rw [show (1 - 1 - 0) = 0 from rfl] at this
      rw [this]
      have e2 : T.getD 0 0 = meanL S L := by
        unfold meanL; rw [← hT]
        match T, e1 with
        | [a], _ => rfl
      rw [e2]
      exact k σ1 hf
    | succ i ih =>
      intro σ1 T hi hf hT hTl hst
      have hx : L.getD i 0 < 120 := hok _ (getD_mem (by omega))
      have ew : σ1 78 i = ((L.getD i 0 / 8 : Nat) : Int) := by rw [hf 78 i (by omega)]; exact (hcod i (by omega)).1
      have eo : σ1 79 i = ((L.getD i 0 % 8 : Nat) : Int) := by rw [hf 79 i (by omega)]; exact (hcod i (by omega)).2
      have hdr := getD_drop (L := L) (i := i) (by omega)
      have hht := hw.1 i (by omega)
      have hlen := evR_len (S := S) (L.drop (i + 1)) (fun k hk => by
        rw [List.drop_drop]
        refine hw.1 _ ?_
        rw [List.length_drop] at hk
        omega)
      rw [← hT] at hlen
      generalize hxe : L.getD i 0 = x at hx ew eo hdr
      have hev : evR S (L.drop i) = stpE S x T := by
        rw [hdr, hT]; rfl
      unfold stpE at hev
      rw [hdr] at hht
      unfold ht at hht
      rw [← hlen] at hht
      have hA : atM S σ1 := h.frame fun c j hcj => hf c j (by omega)
      have hlt : ∀ a ∈ T, a < 256 := by rw [hT]; exact evR_lt h.2.1 _
      have hpl := prt_le (x / 8)
      have nxt : ∀ (T' : List Nat) (r : Nat) (a b c d : Int), r < 256 → evR S (L.drop i) = r :: T' → (∃ n, T'.length + n = T.length ∧ ∀ j, j < T'.length → T'.getD j 0 = T.getD (j + n) 0) → GX12_meaning_106 X (T'.length : Nat) i a b c r (T'.length : Nat) σ1 Q := by
        intro T' r a b c d hr hev' ⟨n, hn1, hn2⟩
        refine rX12_meaning_106 fun _ => ⟨by omega, by omega, ?_⟩
        have := ih (up2 σ1 80 T'.length (r : Int)) (r :: T') (by omega) (fun c j hcj => by rw [up2_nc _ _ hcj]; exact hf c j hcj) hev'.symm (by simp; omega) (fun j hj => by
          match j with
          | 0 => simp [up2_s]
          | j + 1 =>
            simp only [List.length_cons, List.getD_cons_succ] at hj ⊢
            have := hst (j + n) (by omega)
            rw [up2_a _ _ (by omega), hn2 j (by omega), show T'.length + 1 - 1 - (j + 1) = T.length - 1 - (j + n) by omega]
            exact this)
        simp only [List.length_cons] at this
        exact this
      rw [show (((i + 1 : Nat) : Int) + (-1)) = (i : Int) by omega]
      refine rX12_meaning_9 fun _ => ⟨by omega, fun h => by omega, fun _ => ⟨by omega, ?_⟩⟩
      rw [show ((i : Int).toNat) = i from rfl, ew]
      refine m_needs (by omega) fun _ => ⟨by omega, fun hp => ?_, fun hp => ⟨?_, ?_⟩⟩
      · refine rX12_meaning_39 fun _ => ⟨by omega, fun _ => rX12_meaning_58 fun _ => ⟨by omega, fun h => by omega, fun _ => ⟨by omega, by omega, ?_⟩⟩, fun h => by omega⟩
        have hp0 : prt (x / 8) = 0 := by omega
        rw [show ((i : Int).toNat) = i from rfl, ew, eo, hp0]
        have hx32 := prt0_lt hp0
        refine m_allOf hA ho (by omega) (by omega) fun _ => ?_
        rw [show 8 * (x / 8) + x % 8 = x by omega]
        rw [if_pos hp0] at hev
        have := nxt T (F_named S x) ((0 : Nat) : Int) 0 0 0 (F_named_lt h.2.1 x) hev ⟨0, rfl, fun j hj => rfl⟩
        rw [show ((T.length : Int) - ((0 : Nat) : Int)) = (T.length : Int) by omega]
        exact this
      · omega
      · match T, hst, hT, hev, hlt, hTl, hht, nxt with
        | [], _, _, _, _, _, hht, _ => simp at hht; omega
        | a :: r, hst, hT, hev, hlt, hTl, hht, nxt =>
          have s0 := hst 0 (by simp)
          simp only [List.length_cons, List.getD_cons_zero] at s0 hTl hht
          simp only [List.length_cons]
          rw [show (((r.length + 1 : Nat) : Int) - 1).toNat = r.length + 1 - 1 - 0 by omega, s0]
          have ha := hlt a List.mem_cons_self
          have hw4 : 4 ≤ x / 8 := by
            rcases Nat.lt_or_ge (x / 8) 4 with q | q
            · have : prt (x / 8) = 0 := by unfold prt; rw [if_pos q]
              omega
            · exact q
          refine rX12_meaning_39 fun _ => ⟨by omega, fun hp1 => ?_, fun hp1 => ?_⟩
          · have hp1 : prt (x / 8) = 1 := by omega
            refine rX12_meaning_58 fun _ => ⟨by omega, fun _ => ⟨by omega, ?_⟩, fun h => by omega⟩
            rw [show ((i : Int).toNat) = i from rfl, ew, hp1]
            refine m_made (b := 0) hA ho hB hap (by omega) ha (by decide) fun _ => ?_
            have hne : ¬ (x / 8 = 5 ∨ x / 8 = 6 ∨ x / 8 = 7) := by
              intro q
              unfold prt at hp1
              rw [if_neg (by omega), if_pos q] at hp1
              omega
            unfold F_made
            rw [if_neg hne]
            rw [if_neg (by omega), if_pos hp1] at hev
            have := nxt r (F_turn S (x / 8) a) ((1 : Nat) : Int) a 0 0 (F_turn_lt h.2.1 ha) hev ⟨1, by simp, fun j hj => rfl⟩
            rw [show (((r.length + 1 : Nat) : Int) - ((1 : Nat) : Int)) = (r.length : Int) by omega]
            exact this
          · have hp2 : prt (x / 8) = 2 := by omega
            match r, hst, hT, hev, hlt, hTl, hht, nxt with
            | [], _, _, _, _, _, hht, _ => simp at hht; omega
            | b :: r, hst, hT, hev, hlt, hTl, hht, nxt =>
              have s1 := hst 1 (by simp)
              simp only [List.length_cons, List.getD_cons_zero, List.getD_cons_succ] at s1 hTl hht
              simp only [List.length_cons]
              have hb := hlt b (List.mem_cons_of_mem _ List.mem_cons_self)
              refine ⟨by omega, ?_⟩
              rw [show (((r.length + 1 + 1 : Nat) : Int) - 2).toNat = r.length + 1 + 1 - 1 - 1 by omega, s1]
              refine rX12_meaning_58 fun _ => ⟨by omega, fun _ => ⟨by omega, ?_⟩, fun h => by omega⟩
              rw [show ((i : Int).toNat) = i from rfl, ew, hp2]
              refine m_made hA ho hB hap (by omega) ha hb fun _ => ?_
              have hne : x / 8 = 5 ∨ x / 8 = 6 ∨ x / 8 = 7 := by
                unfold prt at hp2
                rw [if_neg (by omega)] at hp2
                split at hp2
                · assumption
                · omega
              unfold F_made
              rw [if_pos hne]
              rw [if_neg (by omega), if_neg (by omega)] at hev
              have := nxt r (F_join (x / 8) a b) ((2 : Nat) : Int) a b 0 (F_join_lt ha hb) hev ⟨2, by simp, fun j hj => rfl⟩
              rw [show (((r.length + 1 + 1 : Nat) : Int) - ((2 : Nat) : Int)) = (r.length : Int) by omega]
              exact this
  refine eX12_meaning (rX12_meaning_0 fun _ => ?_)
  have := loop L.length σ [] (Nat.le_refl _) (fun _ _ _ => rfl) (by rw [List.drop_length]; rfl) (by simp) (fun j hj => by simp at hj)
  rw [hl]
  exact this
theorem m_cost {X : Cx} {σ : Sg} {Q : Int → Sg → Prop} {P : Nat → Int} {L : List Nat} (hP : ∀ w, w < 15 → σ 76 w = P w) (hL : hasM L σ) (hok : okC L) (k : Q (costL P L) σ) : KX12_costTold X σ Q := by
  obtain ⟨hl, h24, hcod⟩ := hL
  refine eX12_costTold (rX12_costTold_0 fun _ => ?_)
  have loop : ∀ d i : Nat, i + d = L.length → ∀ a : Int, a + costL P (L.drop i) = costL P L → GX12_costTold_4 X a i σ Q := by
    intro d
    induction d with
    | zero =>
      intro i hi a ha
      have : i = L.length := by omega
      subst this
      rw [List.drop_length] at ha
      have e : a = costL P L := by rw [← ha]; show a = a + 0; omega
      refine rX12_costTold_4 fun _ => ⟨by omega, fun _ => ?_, fun h => by omega⟩
      rw [e]; exact k
    | succ d ih =>
      intro i hi a ha
      have hx : L.getD i 0 < 120 := hok _ (getD_mem (by omega))
      rw [getD_drop (by omega)] at ha
      have e := (hcod i (by omega)).1
      generalize L.getD i 0 = x at hx ha e
      refine rX12_costTold_4 fun _ => ⟨by omega, fun h => by omega, fun _ => ⟨by omega, ?_⟩⟩
      rw [show ((i : Int).toNat) = i from rfl, e]
      refine ⟨by omega, ?_⟩
      rw [show (((x / 8 : Nat) : Int).toNat) = x / 8 from rfl, hP _ (by omega)]
      have := ih (i + 1) (by omega) (a + P (x / 8)) (by rw [← ha]; show _ = a + (P (x / 8) + costL P (L.drop (i + 1))); omega)
      exact this
  exact loop L.length 0 (by omega) 0 (by rw [List.drop_zero]; omega)
