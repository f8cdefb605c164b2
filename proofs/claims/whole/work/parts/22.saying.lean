/-! COUNTS OF BITS, AND SAYINGS (the class's) -/
theorem bc_key : ∀ v : Nat, v < 256 → (zand (((zand (((zand ((v : Int) - (zand (zushr (v : Int) 1) 1431655765)) 858993459) + (zand (zushr ((v : Int) - (zand (zushr (v : Int) 1) 1431655765)) 2) 858993459)) + (zushr ((zand ((v : Int) - (zand (zushr (v : Int) 1) 1431655765)) 858993459) + (zand (zushr ((v : Int) - (zand (zushr (v : Int) 1) 1431655765)) 2) 858993459)) 4)) 252645135) + (zushr (zand (((zand ((v : Int) - (zand (zushr (v : Int) 1) 1431655765)) 858993459) + (zand (zushr ((v : Int) - (zand (zushr (v : Int) 1) 1431655765)) 2) 858993459)) + (zushr ((zand ((v : Int) - (zand (zushr (v : Int) 1) 1431655765)) 858993459) + (zand (zushr ((v : Int) - (zand (zushr (v : Int) 1) 1431655765)) 2) 858993459)) 4)) 252645135) 8)) + (zushr ((zand (((zand ((v : Int) - (zand (zushr (v : Int) 1) 1431655765)) 858993459) + (zand (zushr ((v : Int) - (zand (zushr (v : Int) 1) 1431655765)) 2) 858993459)) + (zushr ((zand ((v : Int) - (zand (zushr (v : Int) 1) 1431655765)) 858993459) + (zand (zushr ((v : Int) - (zand (zushr (v : Int) 1) 1431655765)) 2) 858993459)) 4)) 252645135) + (zushr (zand (((zand ((v : Int) - (zand (zushr (v : Int) 1) 1431655765)) 858993459) + (zand (zushr ((v : Int) - (zand (zushr (v : Int) 1) 1431655765)) 2) 858993459)) + (zushr ((zand ((v : Int) - (zand (zushr (v : Int) 1) 1431655765)) 858993459) + (zand (zushr ((v : Int) - (zand (zushr (v : Int) 1) 1431655765)) 2) 858993459)) 4)) 252645135) 8)) 16)) 63) = ((pc8 v : Nat) : Int) := by decide +kernel
theorem s_bitCount {X : Cx} {σ : Sg} {Q : Int → Sg → Prop} {s : Nat} (hs : s < 256) (k : Q (pc8 s : Nat) σ) : KJ6_bitCount_0f7a4 X s σ Q := by
  refine eJ6_bitCount_0f7a4 (rJ6_bitCount_0f7a4_0 fun _ => ?_)
  rw [bc_key s hs]
  exact k
theorem pc8_le (s : Nat) : pc8 s ≤ 8 := by
  unfold pc8
  have : ∀ b : Bool, (if b = true then 1 else 0 : Nat) ≤ 1 := by intro b; cases b <;> decide
  have a0 := this (s.testBit 0); have a1 := this (s.testBit 1); have a2 := this (s.testBit 2); have a3 := this (s.testBit 3)
  have a4 := this (s.testBit 4); have a5 := this (s.testBit 5); have a6 := this (s.testBit 6); have a7 := this (s.testBit 7)
  omega
/-- the least bit of a set -/
def lob (s : Nat) : Nat := if s.testBit 0 then 0 else if s.testBit 1 then 1 else if s.testBit 2 then 2 else if s.testBit 3 then 3 else if s.testBit 4 then 4 else if s.testBit 5 then 5 else if s.testBit 6 then 6 else 7
theorem ntz_key : ∀ s : Nat, s < 256 → s ≠ 0 → zand (zxor (s : Int) ((-1))) ((s : Int) - 1) = ((2 ^ lob s - 1 : Nat) : Int) := by decide +kernel
theorem lob_lt (s : Nat) : lob s < 8 := by
  unfold lob
  repeat' split
  all_goals omega
theorem s_ntz {X : Cx} {σ : Sg} {Q : Int → Sg → Prop} {s : Nat} (hs : s < 256) (h0 : s ≠ 0) (k : Q (lob s : Nat) σ) : KJ6_numberOfTrailingZeros_0f7a4 X s σ Q := by
  refine eJ6_numberOfTrailingZeros_0f7a4 (rJ6_numberOfTrailingZeros_0f7a4_0 fun _ => ?_)
  rw [ntz_key s hs h0]
  have hl := lob_lt s
  generalize lob s = t at k hl
  have z32 : zand 0 32 = 0 := by decide +kernel
  match t, hl with
  | 0, _ =>
    refine ⟨fun h => absurd h (by decide), fun _ => ?_⟩
    rw [show ((2 ^ 0 - 1 : Nat) : Int) = 0 from rfl, z32]
    exact k
  | 1, _ =>
    refine ⟨fun _ => ⟨fun _ => ?_, fun h => absurd h (by decide)⟩, fun h => absurd h (by decide)⟩
    refine rJ6_numberOfTrailingZeros_0f7a4_34 fun _ => ⟨by decide, fun _ => ?_, fun h => absurd h (by decide)⟩
    refine rJ6_numberOfTrailingZeros_0f7a4_49 fun _ => ⟨by decide, fun _ => ?_, fun h => absurd h (by decide)⟩
    refine rJ6_numberOfTrailingZeros_0f7a4_62 fun _ => ⟨by decide, fun _ => ?_, fun h => absurd h (by decide)⟩
    rw [show zushr ((2 ^ 1 - 1 : Nat) : Int) 1 = 0 from by decide +kernel]
    exact k
  | 2, _ =>
    refine ⟨fun _ => ⟨fun _ => ?_, fun h => absurd h (by decide)⟩, fun h => absurd h (by decide)⟩
    refine rJ6_numberOfTrailingZeros_0f7a4_34 fun _ => ⟨by decide, fun _ => ?_, fun h => absurd h (by decide)⟩
    refine rJ6_numberOfTrailingZeros_0f7a4_49 fun _ => ⟨by decide, fun _ => ?_, fun h => absurd h (by decide)⟩
    refine rJ6_numberOfTrailingZeros_0f7a4_62 fun _ => ⟨by decide, fun _ => ?_, fun h => absurd h (by decide)⟩
    rw [show zushr ((2 ^ 2 - 1 : Nat) : Int) 1 = 1 from by decide +kernel]
    exact k
  | 3, _ =>
    refine ⟨fun _ => ⟨fun _ => ?_, fun h => absurd h (by decide)⟩, fun h => absurd h (by decide)⟩
    refine rJ6_numberOfTrailingZeros_0f7a4_34 fun _ => ⟨by decide, fun _ => ?_, fun h => absurd h (by decide)⟩
    refine rJ6_numberOfTrailingZeros_0f7a4_49 fun _ => ⟨by decide, fun _ => ?_, fun h => absurd h (by decide)⟩
    refine rJ6_numberOfTrailingZeros_0f7a4_62 fun _ => ⟨by decide, fun h => absurd h (by decide), fun _ => ?_⟩
    rw [show zushr (zushr ((2 ^ 3 - 1 : Nat) : Int) 2) 1 = 0 from by decide +kernel]
    exact k
  | 4, _ =>
    refine ⟨fun _ => ⟨fun _ => ?_, fun h => absurd h (by decide)⟩, fun h => absurd h (by decide)⟩
    refine rJ6_numberOfTrailingZeros_0f7a4_34 fun _ => ⟨by decide, fun _ => ?_, fun h => absurd h (by decide)⟩
    refine rJ6_numberOfTrailingZeros_0f7a4_49 fun _ => ⟨by decide, fun _ => ?_, fun h => absurd h (by decide)⟩
    refine rJ6_numberOfTrailingZeros_0f7a4_62 fun _ => ⟨by decide, fun h => absurd h (by decide), fun _ => ?_⟩
    rw [show zushr (zushr ((2 ^ 4 - 1 : Nat) : Int) 2) 1 = 1 from by decide +kernel]
    exact k
  | 5, _ =>
    refine ⟨fun _ => ⟨fun _ => ?_, fun h => absurd h (by decide)⟩, fun h => absurd h (by decide)⟩
    refine rJ6_numberOfTrailingZeros_0f7a4_34 fun _ => ⟨by decide, fun _ => ?_, fun h => absurd h (by decide)⟩
    refine rJ6_numberOfTrailingZeros_0f7a4_49 fun _ => ⟨by decide, fun h => absurd h (by decide), fun _ => ?_⟩
    rw [show zushr ((2 ^ 5 - 1 : Nat) : Int) 4 = 1 from by decide +kernel]
    refine rJ6_numberOfTrailingZeros_0f7a4_62 fun _ => ⟨by decide, fun _ => ?_, fun h => absurd h (by decide)⟩
    rw [show zushr 1 1 = 0 from by decide +kernel]
    exact k
  | 6, _ =>
    refine ⟨fun _ => ⟨fun _ => ?_, fun h => absurd h (by decide)⟩, fun h => absurd h (by decide)⟩
    refine rJ6_numberOfTrailingZeros_0f7a4_34 fun _ => ⟨by decide, fun _ => ?_, fun h => absurd h (by decide)⟩
    refine rJ6_numberOfTrailingZeros_0f7a4_49 fun _ => ⟨by decide, fun h => absurd h (by decide), fun _ => ?_⟩
    rw [show zushr ((2 ^ 6 - 1 : Nat) : Int) 4 = 3 from by decide +kernel]
    refine rJ6_numberOfTrailingZeros_0f7a4_62 fun _ => ⟨by decide, fun _ => ?_, fun h => absurd h (by decide)⟩
    rw [show zushr 3 1 = 1 from by decide +kernel]
    exact k
  | 7, _ =>
    refine ⟨fun _ => ⟨fun _ => ?_, fun h => absurd h (by decide)⟩, fun h => absurd h (by decide)⟩
    refine rJ6_numberOfTrailingZeros_0f7a4_34 fun _ => ⟨by decide, fun _ => ?_, fun h => absurd h (by decide)⟩
    refine rJ6_numberOfTrailingZeros_0f7a4_49 fun _ => ⟨by decide, fun h => absurd h (by decide), fun _ => ?_⟩
    rw [show zushr ((2 ^ 7 - 1 : Nat) : Int) 4 = 7 from by decide +kernel]
    refine rJ6_numberOfTrailingZeros_0f7a4_62 fun _ => ⟨by decide, fun h => absurd h (by decide), fun _ => ?_⟩
    rw [show zushr (zushr 7 2) 1 = 0 from by decide +kernel]
    exact k
def prt (w : Nat) : Nat := if w < 4 then 0 else if w = 5 ∨ w = 6 ∨ w = 7 then 2 else 1
theorem prt_key : ∀ w : Nat, w < 15 → (stv 3).getD w 0 = ((prt w : Nat) : Int) := by decide +kernel
theorem prt_le (w : Nat) : prt w ≤ 2 := by unfold prt; split <;> (try split) <;> omega
theorem s_parts {X : Cx} {σ : Sg} {Q : Int → Sg → Prop} {w : Nat} (hw : w < 15) (k : Q (prt w : Nat) σ) : KX10_parts X w σ Q := by
  refine eX10_parts (rX10_parts_0 fun _ => s_isWithin (by omega) (by omega) fun _ => ?_)
  rw [if_pos (by omega)]
  refine ⟨by omega, fun h => by omega, fun _ => ⟨by omega, ?_⟩⟩
  have := prt_key w hw
  rw [show ((w : Int).toNat) = w from rfl, this]
  exact k
def nms (w : Nat) : Nat := if w = 1 ∨ w = 2 then 4 else if w = 3 then 3 else 0
theorem nms_key : ∀ w : Nat, w < 15 → (stv 2).getD w 0 = ((nms w : Nat) : Int) := by decide +kernel
theorem s_numbers {X : Cx} {σ : Sg} {Q : Int → Sg → Prop} {w : Nat} (hw : w < 15) (k : Q (nms w : Nat) σ) : KX10_numbers X w σ Q := by
  refine eX10_numbers (rX10_numbers_0 fun _ => s_isWithin (by omega) (by omega) fun _ => ?_)
  rw [if_pos (by omega)]
  refine ⟨by omega, fun h => by omega, fun _ => ⟨by omega, ?_⟩⟩
  have := nms_key w hw
  rw [show ((w : Int).toNat) = w from rfl, this]
  exact k
/-- the stack of meanings behind a row of codes, read from its end -/
def stpE (S : Sc) (x : Nat) (T : List Nat) : List Nat := if prt (x / 8) = 0 then F_named S x :: T else if prt (x / 8) = 1 then (match T with | a :: r => F_turn S (x / 8) a :: r | [] => []) else (match T with | a :: b :: r => F_join (x / 8) a b :: r | r => r)
def evR (S : Sc) : List Nat → List Nat
  | [] => []
  | x :: xs => stpE S x (evR S xs)
def meanL (S : Sc) (L : List Nat) : Nat := (evR S L).headD 0
def ht : List Nat → Int
  | [] => 0
  | x :: xs => ht xs + 1 - prt (x / 8)
def wfL (L : List Nat) : Prop := (∀ k, k < L.length → 1 ≤ ht (L.drop k)) ∧ ht L = 1
def okC (L : List Nat) : Prop := ∀ x ∈ L, x < 120
def hasS (c : Nat) (L : List Nat) (σ : Sg) : Prop := σ c 2 = (L.length : Int) ∧ L.length ≤ 24 ∧ ∀ i, i < L.length → σ (c + 1) i = ((L.getD i 0 : Nat) : Int)
theorem F_join_lt {w a b : Nat} (ha : a < 256) (hb : b < 256) : F_join w a b < 256 := by
  unfold F_join
  split
  · exact Nat.lt_of_le_of_lt Nat.and_le_left ha
  · split
    · exact Nat.or_lt_two_pow (n := 8) ha hb
    · exact Nat.lt_of_le_of_lt (ndf_le a b) ha
theorem F_named_lt {S : Sc} (h8 : S.1 ≤ 8) (c : Nat) : F_named S c < 256 := by
  unfold F_named
  split
  · exact F_all_lt h8
  · split
    · exact bsN_256 h8 _
    · split <;> exact bsN_256 h8 _
theorem F_turn_lt {S : Sc} (h8 : S.1 ≤ 8) {w s : Nat} (hs : s < 256) : F_turn S w s < 256 := by
  unfold F_turn
  repeat' split
  · exact Nat.lt_of_le_of_lt (ndf_le _ _) (F_all_lt h8)
  · exact bsN_256 h8 _
  · exact bsN_256 h8 _
  · exact bsN_256 h8 _
  · exact bsN_256 h8 _
  · exact bsN_256 h8 _
  · exact bsN_256 h8 _
  · unfold F_only; split <;> omega
theorem evR_lt {S : Sc} (h8 : S.1 ≤ 8) : ∀ (L : List Nat), ∀ a ∈ evR S L, a < 256
  | [], a, h => by simp [evR] at h
  | x :: xs, a, h => by
    have ih := evR_lt h8 xs
    unfold evR stpE at h
    split at h
    · rcases List.mem_cons.mp h with rfl | h
      · exact F_named_lt h8 x
      · exact ih a h
    · split at h
      · split at h
        · rename_i b r e
          rw [e] at ih
          rcases List.mem_cons.mp h with rfl | h
          · exact F_turn_lt h8 (ih b List.mem_cons_self)
          · exact ih a (List.mem_cons_of_mem _ h)
        · simp at h
      · split at h
        · rename_i b b2 r e
          rw [e] at ih
          rcases List.mem_cons.mp h with rfl | h
          · exact F_join_lt (ih b List.mem_cons_self) (ih b2 (List.mem_cons_of_mem _ List.mem_cons_self))
          · exact ih a (List.mem_cons_of_mem _ (List.mem_cons_of_mem _ h))
        · exact ih a h
theorem evR_len {S : Sc} : ∀ (L : List Nat), (∀ k, k < L.length → 1 ≤ ht (L.drop k)) → ((evR S L).length : Int) = ht L
  | [], _ => rfl
  | x :: xs, h => by
    have ih := evR_len (S := S) xs (fun k hk => h (k + 1) (by simpa using hk))
    have h0 : 1 ≤ ht (x :: xs) := h 0 (by simp)
    have hp := prt_le (x / 8)
    unfold ht at h0
    unfold evR stpE ht
    split
    · rename_i e; rw [e]; simp; omega
    · split
      · rename_i e
        rw [e] at h0 ⊢
        split
        · rename_i b r e2; rw [e2] at ih; simp at ih ⊢; omega
        · rename_i e2; rw [e2] at ih; simp at ih; omega
      · rename_i e1 e2
        have e : prt (x / 8) = 2 := by omega
        rw [e] at h0 ⊢
        split
        · rename_i b b2 r e3; rw [e3] at ih; simp at ih ⊢; omega
        · rename_i hne
          match hq : evR S xs, hne with
          | [], _ => rw [hq] at ih; simp at ih; omega
          | [a], _ => rw [hq] at ih; simp at ih; omega
          | a :: b :: r, hne => exact absurd rfl (hne a b r)
theorem say_cases {c : Nat} (h : isSay c) : 14 ≤ c ∧ c ≤ 39 ∧ (c = 14 ∨ (18 ≤ c ∧ (c - 18) % 3 = 0)) := by
  have key : ∀ c, c < 99 → isSay c → 14 ≤ c ∧ c ≤ 39 ∧ (c = 14 ∨ (18 ≤ c ∧ (c - 18) % 3 = 0)) := by unfold isSay; decide +kernel
  exact key c (shp_lt (by rw [h.1]; show 3 < 99; decide)) h
theorem atC.frame {S : Sc} {σ σ' : Sg} (h : atC S σ) (hf : ∀ c k, c ≤ 10 → σ' c k = σ c k) : atC S σ' := ⟨by rw [hf 1 1 (by decide)]; exact h.1, h.2.1, fun r t hr ht => by rw [hf (3 + r) t (by omega)]; exact h.2.2 r t hr ht⟩
theorem up2_a (σ : Sg) {c k c' k' : Nat} (x : Int) (h : ¬ (c' = c ∧ k' = k)) : up2 σ c k x c' k' = σ c' k' := if_neg h
theorem getD_drop {L : List Nat} {i : Nat} (h : i < L.length) : L.drop i = L.getD i 0 :: L.drop (i + 1) := by
  rw [List.drop_eq_getElem_cons h]
  congr 1
  rw [List.getD_eq_getElem?_getD, List.getElem?_eq_getElem h]
  rfl
theorem s_meaning {X : Cx} {σ : Sg} {Q : Int → Sg → Prop} {S : Sc} {c0 : Nat} {L : List Nat} (h : atC S σ) (ho : okR S) (hap : apart S) (hs : isSay c0) (hL : hasS c0 L σ) (hw : wfL L) (hok : okC L) (k : ∀ σ', (∀ c j, c ≠ c0 + 2 → σ' c j = σ c j) → Q (meanL S L : Nat) σ') : KX4_meaning X c0 σ Q := by
  have hc := say_cases hs
  obtain ⟨hl, h24, hcod⟩ := hL
  have loop : ∀ (i : Nat) (σ1 : Sg) (T : List Nat), i ≤ L.length → (∀ c j, c ≠ c0 + 2 → σ1 c j = σ c j) → T = evR S (L.drop i) → T.length + i ≤ L.length → (∀ j, j < T.length → σ1 (c0 + 2) (T.length - 1 - j) = ((T.getD j 0 : Nat) : Int)) → GX4_meaning_14 X c0 T.length ((i : Int) + (-1)) σ1 Q := by
    intro i
    induction i with
    | zero =>
      intro σ1 T hi hf hT hTl hst
      refine rX4_meaning_14 hs fun _ => ⟨by omega, fun _ => ?_, fun h => by omega⟩
      have e := evR_len (S := S) L hw.1
      rw [hw.2] at e
      rw [List.drop_zero] at hT
      rw [← hT] at e
      have e1 : T.length = 1 := by omega
      have := hst 0 (by omega)
      rw [e1] at this
      rw [show (1 - 1 - 0) = 0 from rfl] at this
      rw [this]
      have e2 : T.getD 0 0 = meanL S L := by
        unfold meanL; rw [← hT]
        match T, e1 with
        | [a], _ => rfl
      rw [e2]
      exact k σ1 hf
    | succ i ih =>
      intro σ1 T hi hf hT hTl hst
      have hx : L.getD i 0 < 120 := by
        have hm : L.getD i 0 ∈ L := by
          rw [List.getD_eq_getElem?_getD, List.getElem?_eq_getElem (by omega)]
          exact List.getElem_mem _
        exact hok _ hm
      have ecode : σ1 (c0 + 1) i = ((L.getD i 0 : Nat) : Int) := by rw [hf (c0 + 1) i (by omega)]; exact hcod i (by omega)
      have hdr := getD_drop (L := L) (i := i) (by omega)
      have hht := hw.1 i (by omega)
      have hlen := evR_len (S := S) (L.drop (i + 1)) (fun k hk => by
        rw [List.drop_drop]
        refine hw.1 _ ?_
        rw [List.length_drop] at hk
        omega)
      rw [← hT] at hlen
      generalize hxe : L.getD i 0 = x at hx ecode hdr
      have hev : evR S (L.drop i) = stpE S x T := by
        rw [hdr, hT]; rfl
      unfold stpE at hev
      rw [hdr] at hht
      unfold ht at hht
      rw [← hlen] at hht
      have hA : atC S σ1 := h.frame fun c j hcj => hf c j (by omega)
      have hlt : ∀ a ∈ T, a < 256 := by rw [hT]; exact evR_lt h.2.1 _
      have hpl := prt_le (x / 8)
      rw [show (((i + 1 : Nat) : Int) + (-1)) = (i : Int) by omega]
      refine rX4_meaning_14 hs fun _ => ⟨by omega, fun h => by omega, fun _ => ⟨by omega, ?_⟩⟩
      rw [show ((i : Int).toNat) = i from rfl, ecode, shr3 (by omega)]
      refine s_parts (by omega) fun _ => ⟨by omega, fun hp => ?_, fun hp => ?_⟩
      · refine rX4_meaning_68 hs fun _ => ⟨by omega, fun hp1 => ?_, fun hp1 => ⟨by omega, fun h => by omega, fun _ => ⟨by omega, ?_⟩⟩⟩
        · refine rX4_meaning_104 hs fun _ => ⟨by omega, fun h => by omega, fun hp2 => ⟨by omega, fun h => by omega, fun _ => ⟨by omega, by omega, ?_⟩⟩⟩
          match T, hst, hT, hev, hlt, hTl, hht with
          | [], _, _, _, _, _, hht => simp at hht; omega
          | [a], _, _, _, _, _, hht => simp at hht; omega
          | a :: b :: r, hst, hT, hev, hlt, hTl, hht =>
            have s0 := hst 0 (by simp)
            have s1 := hst 1 (by simp)
            simp only [List.length_cons, List.getD_cons_zero, List.getD_cons_succ] at s0 s1 hTl
            simp only [List.length_cons]
            rw [show (((r.length + 1 + 1 : Nat) : Int) + (-1)).toNat = r.length + 1 + 1 - 1 - 0 by omega, show (((r.length + 1 + 1 : Nat) : Int) + (-1) - 1).toNat = r.length + 1 + 1 - 1 - 1 by omega, s0, s1]
            have ha := hlt a List.mem_cons_self
            have hb := hlt b (List.mem_cons_of_mem _ List.mem_cons_self)
            refine s_join (by omega) ha hb fun _ => ⟨by omega, ?_, ?_⟩
            · have := F_join_lt (w := x / 8) ha hb; omega
            · rw [if_neg (by omega), if_neg (by omega)] at hev
              have := ih (up2 σ1 (c0 + 2) (r.length + 1 + 1 - 1 - 1) ((F_join (x / 8) a b : Nat) : Int)) (F_join (x / 8) a b :: r) (by omega) (fun c j hcj => by rw [up2_nc _ _ hcj]; exact hf c j hcj) hev.symm (by simp; omega) (fun j hj => by
                match j with
                | 0 => simp [up2_s]
                | j + 1 =>
                  have := hst (j + 2) (by simp at hj ⊢; omega)
                  simp only [List.length_cons, List.getD_cons_succ] at this hj ⊢
                  rw [up2_a _ _ (by omega), show r.length + 1 - 1 - (j + 1) = r.length + 1 + 1 - 1 - (j + 2) by omega]
                  exact this)
              simp only [List.length_cons] at this
              rw [show (((r.length + 1 + 1 : Nat) : Int) + (-1)) = ((r.length + 1 : Nat) : Int) by omega]
              exact rX4_meaning_145 hs fun _ => this
        · match T, hst, hT, hev, hlt, hTl, hht with
          | [], _, _, _, _, _, hht => simp at hht; omega
          | a :: r, hst, hT, hev, hlt, hTl, hht =>
            have s0 := hst 0 (by simp)
            simp only [List.length_cons, List.getD_cons_zero] at s0 hTl
            simp only [List.length_cons]
            rw [show (((r.length + 1 : Nat) : Int) - 1).toNat = r.length + 1 - 1 - 0 by omega, s0]
            have ha := hlt a List.mem_cons_self
            refine s_turned hA ho hap (by omega) ha (fun _ _ t => s_bitCount ha t) fun _ => ⟨by omega, ?_, ?_⟩
            · have := F_turn_lt (w := x / 8) h.2.1 ha; omega
            · rw [if_neg (by omega), if_pos (by omega)] at hev
              have := ih (up2 σ1 (c0 + 2) (r.length + 1 - 1 - 0) ((F_turn S (x / 8) a : Nat) : Int)) (F_turn S (x / 8) a :: r) (by omega) (fun c j hcj => by rw [up2_nc _ _ hcj]; exact hf c j hcj) hev.symm (by simp; omega) (fun j hj => by
                match j with
                | 0 => simp [up2_s]
                | j + 1 =>
                  have := hst (j + 1) (by simp at hj ⊢; omega)
                  simp only [List.length_cons, List.getD_cons_succ] at this hj ⊢
                  rw [up2_a _ _ (by omega)]
                  exact this)
              simp only [List.length_cons] at this
              exact rX4_meaning_145 hs fun _ => this
      · refine ⟨by omega, fun h => by omega, fun _ => ⟨by omega, ?_⟩⟩
        rw [ecode]
        have hx32 : x < 32 := by
          have : prt (x / 8) = 0 := by omega
          unfold prt at this
          split at this
          · omega
          · split at this <;> omega
        refine s_named hA ho hx32 fun _ => ⟨by omega, ?_, ?_⟩
        · have := F_named_lt h.2.1 x; omega
        · rw [if_pos (by omega)] at hev
          have := ih (up2 σ1 (c0 + 2) T.length ((F_named S x : Nat) : Int)) (F_named S x :: T) (by omega) (fun c j hcj => by rw [up2_nc _ _ hcj]; exact hf c j hcj) hev.symm (by simp; omega) (fun j hj => by
            match j with
            | 0 => simp [up2_s]
            | j + 1 =>
              simp only [List.length_cons, List.getD_cons_succ] at hj ⊢
              have := hst j (by omega)
              rw [up2_a _ _ (by omega), show T.length + 1 - 1 - (j + 1) = T.length - 1 - j by omega]
              exact this)
          simp only [List.length_cons] at this
          exact rX4_meaning_145 hs fun _ => this
  refine eX4_meaning (rX4_meaning_0 hs fun _ => ?_)
  have := loop L.length σ [] (Nat.le_refl _) (fun _ _ _ => rfl) (by rw [List.drop_length]; rfl) (by simp) (fun j hj => by simp at hj)
  rw [hl, if_neg (by omega)]
  exact this
