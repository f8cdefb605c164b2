/-! THE STATE: what both sides hold -/
def preOK (due : Int) (cs : List Nat) : Prop := ∀ M : List Nat, (∀ k, k < M.length → 1 ≤ ht (M.drop k)) → ht M = due → (∀ k, k < (cs.reverse ++ M).length → 1 ≤ ht ((cs.reverse ++ M).drop k)) ∧ ht (cs.reverse ++ M) = 1
theorem preOK_step {due : Nat} {cs : List Nat} {x : Nat} (h : preOK due cs) (hd : 0 < due) : preOK ((due + prt (x / 8) - 1 : Nat) : Int) (x :: cs) := by
  intro M h1 h2
  have := h (x :: M) (fun k hk => ?_) ?_
  · rw [List.reverse_cons, List.append_assoc]; exact this
  · match k with
    | 0 => show 1 ≤ ht M + 1 - prt (x / 8); omega
    | k + 1 => exact h1 k (by simpa using hk)
  · show ht M + 1 - prt (x / 8) = due; omega
theorem prs_ok {b : Nat → Int} {n : Nat} : ∀ (f p due nd : Nat) (cs L : List Nat), (nd = 0 → preOK due cs ∧ okC cs) → (0 < nd → ∃ x r d0, cs = x :: r ∧ x < 120 ∧ x % 8 = 0 ∧ nd = nms (x / 8) ∧ 0 < d0 ∧ due = d0 + prt (x / 8) - 1 ∧ preOK (d0 : Nat) r ∧ okC r) → prs b n f p due nd cs = .inr L → wfL L ∧ okC L
  | 0, p, due, nd, cs, L, _, _, h => by unfold prs at h; cases h
  | f + 1, p, due, nd, cs, L, h0, h1, h => by
    unfold prs at h
    split at h
    · split at h
      · rename_i hz
        obtain ⟨a, c⟩ := h0 hz.2
        injection h with h
        subst h
        have := a [] (fun k hk => by simp at hk) (by rw [hz.1]; rfl)
        rw [List.append_nil] at this
        exact ⟨this, fun x hx => c x (List.mem_reverse.mp hx)⟩
      · cases h
    · split at h
      · rename_i hnd
        split at h
        · rename_i hc
          obtain ⟨x, r, d0, rfl, hx, hx8, hnx, hd0, hdu, hpre, hok⟩ := h1 hnd
          have hn4 := nms_le (x / 8)
          have hv : (b (skp b n p) - 48).toNat < 8 := by omega
          have e8 : (x + (b (skp b n p) - 48).toNat) / 8 = x / 8 := by omega
          refine prs_ok f _ _ _ _ L (fun _ => ⟨?_, ?_⟩) (fun z => by omega) h
          · have := preOK_step (x := x + (b (skp b n p) - 48).toNat) hpre hd0
            rw [e8, ← hdu] at this
            exact this
          · intro y hy
            rcases List.mem_cons.mp hy with rfl | hy
            · omega
            · exact hok y hy
        · cases h
      · rename_i hnd
        split at h
        · cases h
        · rename_i hdz
          split at h
          · cases h
          · rename_i hw
            obtain ⟨a, c⟩ := h0 (by omega)
            have hwl : wAt b (skp b n p) (tend b n (skp b n p)) < 15 := by
              rcases wAt_is b (skp b n p) (tend b n (skp b n p)) with ⟨z, -⟩ | ⟨z, -⟩
              · exact absurd (Or.inl z) hw
              · exact z
            generalize wAt b (skp b n p) (tend b n (skp b n p)) = w at *
            have e8 : 8 * w / 8 = w := by omega
            refine prs_ok f _ _ _ _ L (fun z => ⟨?_, ?_⟩) (fun z => ⟨8 * w, cs, due, rfl, by omega, by omega, by rw [e8], by omega, by rw [e8], a, c⟩) h
            · have := preOK_step (x := 8 * w) a (by omega)
              rw [e8] at this
              exact this
            · intro y hy
              rcases List.mem_cons.mp hy with rfl | hy
              · omega
              · exact c y hy
theorem prsT_ok {b : Nat → Int} {n : Nat} {L : List Nat} (h : prsT b n = .inr L) : wfL L ∧ okC L :=
  prs_ok (n + 1) 0 1 0 [] L (fun _ => ⟨fun M h1 h2 => ⟨h1, h2⟩, fun x hx => by simp at hx⟩) (fun z => by omega) h
theorem prs_in {b : Nat → Int} {n : Nat} : ∀ (f p due nd : Nat) (cs : List Nat) (x : Nat), p ≤ n → prs b n f p due nd cs = .inl x → x ≤ n
  | 0, p, due, nd, cs, x, _, h => by unfold prs at h; injection h with h; omega
  | f + 1, p, due, nd, cs, x, hp, h => by
    have hs : skp b n p ≤ n := run_le hp
    unfold prs at h
    split at h
    · split at h
      · cases h
      · injection h with h; omega
    · rename_i hne
      have htl := tend_le (b := b) (n := n) (q := skp b n p) (by omega)
      split at h
      · split at h
        · exact prs_in f _ _ _ _ x htl h
        · injection h with h; omega
      · split at h
        · injection h with h; omega
        · split at h
          · injection h with h; omega
          · exact prs_in f _ _ _ _ x htl h
theorem prsT_in {b : Nat → Int} {n x : Nat} (h : prsT b n = .inl x) : x ≤ n := prs_in (n + 1) 0 1 0 [] x (Nat.zero_le _) h
/-- scene, prices, text, kept sayings, names -/
abbrev AS : Type := Sc × (Nat → Int) × ((Nat → Int) × Nat) × List (List Nat) × List Nat
def okS (S : Sc) : Prop := S.1 ≤ 8 ∧ okR S ∧ okB2 S ∧ apart S ∧ ∀ t, t < S.1 → S.2 6 t < ((2 ^ S.1 : Nat) : Int)
def okA (A : AS) : Prop := okS A.1 ∧ okP A.2.1 ∧ (A.2.2.2.1.length ≤ 8 ∧ ∀ L ∈ A.2.2.2.1, okC L ∧ wfL L ∧ L.length ≤ 24) ∧ (A.2.2.2.2.length ≤ 12 ∧ ∀ t ∈ A.2.2.2.2, t < A.1.1)
def tsF (f : Nat → Int) : Nat → Nat
  | 0 => 0
  | n + 1 => tsF f n + pc8 (f n).toNat
def tsum (S : Sc) : Nat := tsF (S.2 6) S.1
abbrev CKt : Type := (Sc → (Nat → Int) → Sg → Prop) × (Sc → (Nat → Int) → Sg → Prop)
/-- what is kept of tables is right as long as it says so -/
def cacheOK (CK : CKt) (S : Sc) (P : Nat → Int) (σ : Sg) : Prop := σ 42 8 ≤ σ 0 11 ∧ σ 49 2 ≤ σ 0 11 ∧ (σ 42 8 = σ 0 11 → CK.1 S P σ) ∧ (σ 49 2 = σ 0 11 → CK.2 S P σ)
def okCK (CK : CKt) : Prop := ∀ S P σ σ', (∀ c k, 42 ≤ c → c ≤ 56 → σ' c k = σ c k) → (CK.1 S P σ → CK.1 S P σ') ∧ (CK.2 S P σ → CK.2 S P σ')
def keptC (K : List (List Nat)) (σ : Sg) : Prop := σ 0 10 = (K.length : Int) ∧ ∀ k, k < K.length → hasS (18 + 3 * k) (K.getD k []) σ
def keptM (K : List (List Nat)) (σ : Sg) : Prop := σ 69 20 = (K.length : Int) ∧ ∀ k, k < K.length → σ 81 k = ((K.getD k []).length : Int) ∧ ∀ i, i < (K.getD k []).length → σ 82 (24 * k + i) = (((K.getD k []).getD i 0 / 8 : Nat) : Int) ∧ σ 83 (24 * k + i) = (((K.getD k []).getD i 0 % 8 : Nat) : Int)
def talkC (N : List Nat) (σ : Sg) : Prop := σ 67 1 = (N.length : Int) ∧ ∀ i, i < N.length → σ 68 i = ((N.getD i 0 : Nat) : Int)
def talkM (N : List Nat) (σ : Sg) : Prop := σ 69 39 = (N.length : Int) ∧ ∀ i, i < N.length → σ 98 i = ((N.getD i 0 : Nat) : Int)
def zerC (S : Sc) (σ : Sg) : Prop := ∀ t, S.1 ≤ t → t < 8 → σ 6 t = 0 ∧ σ 9 t = 0 ∧ σ 10 t = 0
def zerM (S : Sc) (σ : Sg) : Prop := ∀ t, S.1 ≤ t → t < 8 → σ 73 t = 0 ∧ σ 75 t = 0
def InvC (CK : CKt) (A : AS) (m : Nat) (σ : Sg) : Prop := atC A.1 σ ∧ zerC A.1 σ ∧ σ 1 2 = (tsum A.1 : Int) ∧ (∀ w, w < 15 → σ 11 w = A.2.1 w) ∧ txC σ A.2.2.1.1 A.2.2.1.2 ∧ keptC A.2.2.2.1 σ ∧ talkC A.2.2.2.2 σ ∧ (0 ≤ σ 0 11 ∧ σ 0 11 ≤ m) ∧ cacheOK CK A.1 A.2.1 σ
def InvM (A : AS) (σ : Sg) : Prop := atM A.1 σ ∧ zerM A.1 σ ∧ (∀ w, w < 15 → σ 76 w = A.2.1 w) ∧ txM σ A.2.2.1.1 A.2.2.1.2 ∧ keptM A.2.2.2.1 σ ∧ talkM A.2.2.2.2 σ
theorem InvM.frame {A : AS} {σ σ' : Sg} (h : InvM A σ) (hf : ∀ c k, 69 ≤ c → σ' c k = σ c k) : InvM A σ' := by
  obtain ⟨h1, h2, h3, h4, h5, h6⟩ := h
  refine ⟨h1.frame fun c k hc => hf c k (by omega), fun t a c => by rw [hf 73 t (by decide), hf 75 t (by decide)]; exact h2 t a c, fun w hw => by rw [hf 76 w (by decide)]; exact h3 w hw, h4.frame fun c k hc => hf c k (by omega), ⟨by rw [hf 69 20 (by decide)]; exact h5.1, fun k hk => ?_⟩, ⟨by rw [hf 69 39 (by decide)]; exact h6.1, fun i hi => by rw [hf 98 i (by decide)]; exact h6.2 i hi⟩⟩
  rw [hf 81 k (by decide)]
  refine ⟨(h5.2 k hk).1, fun i hi => ?_⟩
  rw [hf 82 _ (by decide), hf 83 _ (by decide)]
  exact (h5.2 k hk).2 i hi
theorem hasS.frame {c : Nat} {L : List Nat} {σ σ' : Sg} (h : hasS c L σ) (hf : ∀ c' k, c' = c ∨ c' = c + 1 → σ' c' k = σ c' k) : hasS c L σ' := ⟨by rw [hf c 2 (Or.inl rfl)]; exact h.1, h.2.1, fun i hi => by rw [hf (c + 1) i (Or.inr rfl)]; exact h.2.2 i hi⟩
/-- what of the class's cells a call may write without changing its state: scratch -/
def scr (c k : Nat) : Prop := (c = 12 ∧ (k = 3 ∨ k = 4)) ∨ (14 ≤ c ∧ c ≤ 16) ∨ (18 ≤ c ∧ c ≤ 41 ∧ (c - 18) % 3 = 2) ∨ (57 ≤ c ∧ c ≤ 66) ∨ 69 ≤ c
theorem InvC.frame {CK : CKt} (hCK : okCK CK) {A : AS} {m : Nat} {σ σ' : Sg} (hK : A.2.2.2.1.length ≤ 8) (h : InvC CK A m σ) (hf : ∀ c k, ¬ scr c k → σ' c k = σ c k) : InvC CK A m σ' := by
  obtain ⟨h1, h2, h3, h4, h5, h6, h7, h8, h9⟩ := h
  have ns : ∀ c k, c ≤ 11 ∨ c = 13 ∨ c = 17 ∨ (42 ≤ c ∧ c ≤ 56) ∨ c = 67 ∨ c = 68 → ¬ scr c k := fun c k hc => by unfold scr; omega
  refine ⟨h1.frame fun c k hc => hf c k (ns c k (by omega)), fun t a c => by rw [hf 6 t (ns _ _ (by omega)), hf 9 t (ns _ _ (by omega)), hf 10 t (ns _ _ (by omega))]; exact h2 t a c, by rw [hf 1 2 (ns _ _ (by omega))]; exact h3, fun w hw => by rw [hf 11 w (ns _ _ (by omega))]; exact h4 w hw, ⟨by rw [hf 12 2 (by unfold scr; omega)]; exact h5.1, h5.2.1, fun i hi => by rw [hf 13 i (ns _ _ (by omega))]; exact h5.2.2 i hi⟩, ⟨by rw [hf 0 10 (ns _ _ (by omega))]; exact h6.1, fun k hk => (h6.2 k hk).frame fun c j hc => hf c j (by unfold scr; omega)⟩, ⟨by rw [hf 67 1 (ns _ _ (by omega))]; exact h7.1, fun i hi => by rw [hf 68 i (ns _ _ (by omega))]; exact h7.2 i hi⟩, by rw [hf 0 11 (ns _ _ (by omega))]; exact h8, ?_⟩
  obtain ⟨c1, c2, c3, c4⟩ := h9
  have hh := hCK A.1 A.2.1 σ σ' fun c k a d => hf c k (ns c k (by omega))
  unfold cacheOK
  rw [hf 42 8 (ns _ _ (by omega)), hf 49 2 (ns _ _ (by omega)), hf 0 11 (ns _ _ (by omega))]
  exact ⟨c1, c2, fun z => hh.1 (c3 z), fun z => hh.2 (c4 z)⟩
theorem InvC.more {CK : CKt} {A : AS} {m : Nat} {σ : Sg} (h : InvC CK A m σ) : InvC CK A (m + 1) σ := by
  obtain ⟨h1, h2, h3, h4, h5, h6, h7, h8, h9⟩ := h
  exact ⟨h1, h2, h3, h4, h5, h6, h7, ⟨h8.1, by omega⟩, h9⟩
/-- after a change: nothing that was kept of tables says that it is right -/
theorem cache_off {CK : CKt} {S S' : Sc} {P P' : Nat → Int} {σ σ' : Sg} (h : cacheOK CK S P σ) (h1 : σ' 42 8 = σ 42 8) (h2 : σ' 49 2 = σ 49 2) (h3 : σ' 0 11 = σ 0 11 + 1) : cacheOK CK S' P' σ' := by
  obtain ⟨c1, c2, -, -⟩ := h
  unfold cacheOK
  rw [h1, h2, h3]
  exact ⟨by omega, by omega, fun z => by omega, fun z => by omega⟩
