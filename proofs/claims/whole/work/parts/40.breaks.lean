/-! breaks -/
def brP (S : Sc) (L : List Nat) (t c : Nat) : Bool := decide (meanL (setS S 1 t (c : Nat)) L ≠ meanL S L)
def ffd (p : Nat → Bool) : Nat → Int
  | 0 => -1
  | d + 1 => if p (3 - d) then ((3 - d : Nat) : Int) else ffd p d
theorem ffd_rng (p : Nat → Bool) : ∀ d, d ≤ 4 → ffd p d = -1 ∨ (0 ≤ ffd p d ∧ ffd p d ≤ 3)
  | 0, _ => Or.inl rfl
  | d + 1, h => by
    have e : ffd p (d + 1) = (if p (3 - d) then ((3 - d : Nat) : Int) else ffd p d) := rfl
    rw [e]
    split
    · exact Or.inr ⟨by omega, by omega⟩
    · exact ffd_rng p d (by omega)
def brT (S : Sc) (L : List Nat) : Nat → Int
  | 0 => -1
  | d + 1 => if ffd (brP S L (S.1 - (d + 1))) 4 = -1 then brT S L d else 4 * ((S.1 - (d + 1) : Nat) : Int) + ffd (brP S L (S.1 - (d + 1))) 4
theorem setS_ok1 {S : Sc} {t c : Nat} (h : okS S) (hc : c < 4) : okS (setS S 1 t (c : Nat)) := setS_ok h (by decide) ⟨by simp, by simp; omega⟩
theorem setS_self {S : Sc} {w t : Nat} : setS S w t (S.2 w t) = S := by
  obtain ⟨n, f⟩ := S
  show (n, _) = (n, f)
  congr 1
  funext r i
  show (if r = w ∧ i = t then f w t else f r i) = f r i
  split
  · rename_i h; rw [h.1, h.2]
  · rfl
theorem s_firstBreak {X : Cx} {σ : Sg} {Q : Int → Sg → Prop} {S : Sc} {L : List Nat} (h : atC S σ) (hS : okS S) (hL : hasS 14 L σ) (hw : wfL L) (hok : okC L) (k : ∀ σ', (∀ c j, c ≠ 16 → σ' c j = σ c j) → Q (brT S L S.1) σ') : KX11_firstBreak X σ Q := by
  refine eX11_firstBreak (rX11_firstBreak_0 fun _ => s_meaning h hS.2.1 hS.2.2.2.1 isSay_14 hL hw hok fun σ0 hf0 _ => ?_)
  have h8 := h.2.1
  have outer : ∀ d t : Nat, t + d = S.1 → ∀ σ1 : Sg, (∀ c j, c ≠ 16 → σ1 c j = σ c j) → (∀ σ', (∀ c j, c ≠ 16 → σ' c j = σ c j) → Q (brT S L d) σ') → GX11_firstBreak_22 X (meanL S L : Nat) t σ1 Q := by
    intro d
    induction d with
    | zero =>
      intro t ht σ1 hf k
      have e : σ1 1 1 = (S.1 : Int) := by rw [hf 1 1 (by decide)]; exact h.1
      exact rX11_firstBreak_22 fun _ => ⟨by omega, fun _ => k σ1 hf, fun z => by omega⟩
    | succ d ih =>
      intro t ht σ1 hf k
      have e : σ1 1 1 = (S.1 : Int) := by rw [hf 1 1 (by decide)]; exact h.1
      have et : S.1 - (d + 1) = t := by omega
      refine rX11_firstBreak_22 fun hR => ⟨by omega, fun z => by omega, fun _ => ⟨by omega, fun z => by omega, fun _ => ⟨by omega, ?_⟩⟩⟩
      have ec : σ1 4 ((t : Int).toNat) = S.2 1 t := by rw [show σ1 4 ((t : Int).toNat) = σ1 (3 + 1) t from rfl, hf _ _ (by decide)]; exact h.2.2 1 t (by decide) (by omega)
      rw [ec]
      have inner : ∀ e c : Nat, c + e = 4 → ∀ σ2 : Sg, (∀ c j, c ≠ 16 → σ2 c j = σ c j) → (∀ σ', (∀ c j, c ≠ 16 → σ' c j = σ c j) → Q (if ffd (brP S L t) e = -1 then brT S L d else 4 * (t : Int) + ffd (brP S L t) e) σ') → GX11_firstBreak_50 X (meanL S L : Nat) t (S.2 1 t) c σ2 Q := by
        intro e
        induction e with
        | zero =>
          intro c hc σ2 hf2 k2
          refine rX11_firstBreak_50 fun _ => ⟨by omega, fun _ => ?_, fun z => by omega⟩
          exact ih (t + 1) (by omega) σ2 hf2 fun σ' hf' => by have := k2 σ' hf'; rw [if_pos (show ffd (brP S L t) 0 = -1 from rfl)] at this; exact this
        | succ e ihe =>
          intro c hc σ2 hf2 k2
          have hcl := (hS.2.1 t (by omega)).2.1
          have hat : atC (setS S 1 t (c : Nat)) (up2 σ2 4 t (c : Nat)) := by
            refine ⟨by rw [up2_nc _ _ (by decide), hf2 1 1 (by decide)]; exact h.1, h8, fun r i hr hi => ?_⟩
            show _ = (if r = 1 ∧ i = t then ((c : Nat) : Int) else S.2 r i)
            by_cases q : r = 1 ∧ i = t
            · rw [if_pos q, q.1, q.2, show 3 + 1 = 4 from rfl, up2_s]
            · rw [if_neg q, up2_a _ _ (by omega), hf2 _ _ (by omega)]; exact h.2.2 r i hr hi
          have hS' := setS_ok1 (t := t) hS (show c < 4 by omega)
          refine rX11_firstBreak_50 fun _ => ⟨by omega, fun z => by omega, fun _ => ⟨by omega, by omega, ?_⟩⟩
          rw [show ((t : Int).toNat) = t from rfl]
          refine s_meaning hat hS'.2.1 hS'.2.2.2.1 isSay_14 (hL.frame fun c' j z => by rw [up2_nc _ _ (by omega)]; exact hf2 c' j (by omega)) hw hok fun σ3 hf3 _ => ?_
          have hf4 : ∀ c j, c ≠ 16 → up2 σ3 4 t (S.2 1 t) c j = σ c j := by
            intro c' j hc'
            by_cases q : c' = 4 ∧ j = t
            · rw [q.1, q.2, up2_s]; exact (h.2.2 1 t (by decide) (by omega)).symm
            · rw [up2_a _ _ q, hf3 c' j (by omega), up2_a _ _ q]; exact hf2 c' j hc'
          have el : ∀ a : Nat, a < 256 → inI (a : Int) := fun a ha => by omega
          have hm : ∀ S : Sc, S.1 ≤ 8 → meanL S L < 256 := fun S hS => by
            unfold meanL
            cases hev : evR S L with
            | nil => decide
            | cons a r => exact evR_lt hS L a (by rw [hev]; exact List.mem_cons_self)
          have eff : ffd (brP S L t) (e + 1) = (if brP S L t c then ((c : Nat) : Int) else ffd (brP S L t) e) := by
            show (if brP S L t (3 - e) then ((3 - e : Nat) : Int) else ffd (brP S L t) e) = _
            rw [show 3 - e = c by omega]
          rw [eff] at k2
          refine ⟨by omega, by omega, el _ (hm _ h8), el _ (hm _ h8), fun z => ?_, fun z => ?_⟩
          · refine ihe (c + 1) (by omega) _ hf4 fun σ' hf' => ?_
            have := k2 σ' hf'
            rw [if_neg (show ¬ brP S L t c = true by unfold brP; simp; omega)] at this
            exact this
          · have := k2 _ hf4
            rw [if_pos (show brP S L t c = true by unfold brP; simp; omega), if_neg (by omega)] at this
            exact this
      exact inner 4 0 (by omega) σ1 hf fun σ' hf' => by
        have := k σ' hf'
        unfold brT at this
        rw [et] at this
        exact this
  exact outer S.1 0 (by omega) σ0 (fun c j z => hf0 c j (by omega)) k
def opBreaks (A : AS) : Int × AS := (match prsT A.2.2.1.1 A.2.2.1.2 with | .inl _ => -4 | .inr L => brT A.1 L A.1.1, A)
theorem c_breaks {CK : CKt} {X : Cx} {A : AS} {m : Nat} {σ : Sg} (hCK : okCK CK) (h : InvC CK A m σ) (hA : okA A) : doesC CK m (opBreaks A) σ (KX11_breaks X σ) := by
  intro Q K
  unfold opBreaks at K
  refine eX11_breaks (rX11_breaks_0 fun _ => s_read h.2.2.2.2.1 (fun x σ' hf e _ => ?_) (fun L σ' hf hL e _ => ?_))
  · rw [e] at K
    have := prsT_in e
    have := h.2.2.2.2.1.2.1
    exact ⟨by omega, fun _ => K σ' (fun c k z => hf c k (by omega) (by omega) (by omega)) (h.frame hCK hA.2.2.1.1 (frT_scr hf)).more, fun z => by omega⟩
  · rw [e] at K
    have h' := h.frame hCK hA.2.2.1.1 (frT_scr hf)
    refine ⟨by decide, fun z => absurd rfl z, fun _ => s_firstBreak h'.1 hA.1 hL (prsT_ok e).1 (prsT_ok e).2 fun σ2 hf2 _ => ?_⟩
    exact K σ2 (fun c k z => (hf2 c k (by omega)).trans (hf c k (by omega) (by omega) (by omega))) (h'.frame hCK hA.2.2.1.1 fun c k z => hf2 c k (by unfold scr at z; omega)).more
theorem mean_lt {S : Sc} {L : List Nat} (h : S.1 ≤ 8) : meanL S L < 256 := by
  unfold meanL
  cases hev : evR S L with
  | nil => decide
  | cons a r => exact evR_lt h L a (by rw [hev]; exact List.mem_cons_self)
theorem m_breaks {X : Cx} {A : AS} {σ : Sg} (h : InvM A σ) (hA : okA A) : doesM (opBreaks A) σ (KX12_breaks X σ) := by
  intro Q K
  unfold opBreaks at K
  refine eX12_breaks (rX12_breaks_0 fun _ => m_isRead h.2.2.2.1 (fun x σ' hf e hx _ => ?_) (fun L σ' hf hL e _ => ?_))
  · rw [e] at K
    exact ⟨by decide, fun z => absurd rfl z, fun _ => K σ' (fun c k z => hf c k (by omega) (by omega) (by omega)) (h.frameS (frR_scr hf))⟩
  · rw [e] at K
    have h' := h.frameS (frR_scr hf)
    obtain ⟨S, A2⟩ := A
    have hat : atM S σ' := h'.1
    have hS : okS S := hA.1
    have hw := (prsT_ok e).1
    have hok := (prsT_ok e).2
    refine ⟨by decide, fun _ => m_meaning hat hS.2.1 hS.2.2.1 hS.2.2.2.1 hL hw hok fun σ0 hf0 _ => ?_, fun z => absurd z (by decide)⟩
    have h8 : S.1 ≤ 8 := hS.1
    have outer : ∀ d t : Nat, t + d = S.1 → ∀ σ1 : Sg, (∀ c j, c ≠ 80 → σ1 c j = σ' c j) → (∀ σ2, (∀ c j, c ≠ 80 → σ2 c j = σ' c j) → Q (brT S L d) σ2) → GX12_breaks_17 X (meanL S L : Nat) t σ1 Q := by
      intro d
      induction d with
      | zero =>
        intro t ht σ1 hf1 k
        have e : σ1 69 0 = (S.1 : Int) := by rw [hf1 69 0 (by decide)]; exact hat.1
        exact rX12_breaks_17 fun _ => ⟨by omega, fun _ => k σ1 hf1, fun z => by omega⟩
      | succ d ih =>
        intro t ht σ1 hf1 k
        have e : σ1 69 0 = (S.1 : Int) := by rw [hf1 69 0 (by decide)]; exact hat.1
        have et : S.1 - (d + 1) = t := by omega
        refine rX12_breaks_17 fun hR => ⟨by omega, fun z => by omega, fun _ => ⟨by omega, ?_⟩⟩
        have ec : σ1 71 ((t : Int).toNat) = S.2 1 t := by rw [show σ1 71 ((t : Int).toNat) = σ1 71 t from rfl, hf1 _ _ (by decide)]; exact (hat.2.2 t (by omega)).2.1
        rw [ec]
        have hcl := (hS.2.1 t (by omega)).2.1
        have inner : ∀ c e : Nat, c + e = 4 → ∀ σ2 : Sg, (∀ c j, c ≠ 80 → ¬ (c = 71 ∧ j = t) → σ2 c j = σ' c j) → GX12_breaks_38 X (meanL S L : Nat) t (S.2 1 t) (ffd (brP S L t) e) ((c : Int) - 1) σ2 Q := by
          intro c
          induction c with
          | zero =>
            intro e he σ2 hf2
            have he : e = 4 := by omega
            subst he
            have hf4 : ∀ c j, c ≠ 80 → up2 σ2 71 t (S.2 1 t) c j = σ' c j := by
              intro c' j hc'
              by_cases q : c' = 71 ∧ j = t
              · rw [q.1, q.2, up2_s]; exact ((hat.2.2 t (by omega)).2.1).symm
              · rw [up2_a _ _ q]; exact hf2 c' j hc' q
            have fr := ffd_rng (brP S L t) 4 (by omega)
            refine rX12_breaks_38 fun _ => ⟨by omega, fun _ => ⟨by omega, by omega, by omega, fun z => ?_, fun z => ?_⟩, fun z => by omega⟩
            · refine ih (t + 1) (by omega) _ hf4 fun σ3 hf3 => ?_
              have := k σ3 hf3
              unfold brT at this
              rw [et, if_pos z] at this
              exact this
            · have := k _ hf4
              unfold brT at this
              rw [et, if_neg z] at this
              exact this
          | succ c ihc =>
            intro e he σ2 hf2
            have hS' := setS_ok1 (t := t) hS (show c < 4 by omega)
            have eff : ffd (brP S L t) (e + 1) = (if brP S L t c then ((c : Nat) : Int) else ffd (brP S L t) e) := by
              show (if brP S L t (3 - e) then ((3 - e : Nat) : Int) else ffd (brP S L t) e) = _
              rw [show 3 - e = c by omega]
            have ecc : (((c + 1 : Nat) : Int) - 1) = (c : Int) := by omega
            have step : ∀ σ3 : Sg, (∀ c j, c ≠ 80 → ¬ (c = 71 ∧ j = t) → σ3 c j = σ' c j) → GX12_breaks_38 X (meanL S L : Nat) t (S.2 1 t) (ffd (brP S L t) (e + 1)) ((c : Int) + (-1)) σ3 Q := fun σ3 hf3 => by
              have := ihc (e + 1) (by omega) σ3 hf3
              rw [show ((c : Int) + (-1)) = (c : Int) - 1 by omega]; exact this
            have no : ¬ brP S L t c = true → ∀ σ3 : Sg, (∀ c j, c ≠ 80 → ¬ (c = 71 ∧ j = t) → σ3 c j = σ' c j) → GX12_breaks_70 X (meanL S L : Nat) t (S.2 1 t) (ffd (brP S L t) e) c σ3 Q := fun hp σ3 hf3 => by
              refine rX12_breaks_70 fun _ => rX12_breaks_72 fun _ => ?_
              have := step σ3 hf3
              rw [eff, if_neg hp] at this
              exact this
            rw [ecc]
            refine rX12_breaks_38 fun _ => ⟨by omega, fun z => by omega, fun _ => ⟨by omega, by omega, by omega, by omega, fun z => ?_, fun z => ?_⟩⟩
            · refine no ?_ _ (fun c' j a b => by rw [show ((t : Int).toNat) = t from rfl, up2_a _ _ b]; exact hf2 c' j a b)
              unfold brP
              rw [z, setS_self]; simp
            · rw [show ((t : Int).toNat) = t from rfl]
              have hat2 : atM (setS S 1 t (c : Nat)) (up2 σ2 71 t (c : Nat)) := by
                refine ⟨by rw [up2_nc _ _ (by decide), hf2 69 0 (by decide) (by omega)]; exact hat.1, h8, fun i hi => ?_⟩
                have q := hat.2.2 i hi
                rw [up2_nc _ _ (show (70 : Nat) ≠ 71 by decide), up2_nc _ _ (show (72 : Nat) ≠ 71 by decide), up2_nc _ _ (show (73 : Nat) ≠ 71 by decide), up2_nc _ _ (show (74 : Nat) ≠ 71 by decide), up2_nc _ _ (show (75 : Nat) ≠ 71 by decide), hf2 70 i (by decide) (by omega), hf2 72 i (by decide) (by omega), hf2 73 i (by decide) (by omega), hf2 74 i (by decide) (by omega), hf2 75 i (by decide) (by omega)]
                refine ⟨q.1, ?_, q.2.2.1, q.2.2.2.1, q.2.2.2.2.1, q.2.2.2.2.2⟩
                show _ = (if 1 = 1 ∧ i = t then ((c : Nat) : Int) else S.2 1 i)
                by_cases qi : i = t
                · rw [if_pos ⟨rfl, qi⟩, qi, up2_s]
                · rw [if_neg (fun y => qi y.2), up2_nk _ _ qi, hf2 71 i (by decide) (by omega)]; exact q.2.1
              refine m_meaning hat2 hS'.2.1 hS'.2.2.1 hS'.2.2.2.1 (hL.frame fun c' j y => by rw [up2_nc _ _ (by omega)]; exact hf2 c' j (by omega) (by omega)) hw hok fun σ3 hf3 _ => ?_
              have hf5 : ∀ c j, c ≠ 80 → ¬ (c = 71 ∧ j = t) → σ3 c j = σ' c j := fun c' j a b => by rw [hf3 c' j a, up2_a _ _ b]; exact hf2 c' j a b
              have l1 := mean_lt (S := setS S 1 t (c : Nat)) (L := L) h8
              have l2 := mean_lt (S := S) (L := L) h8
              refine ⟨by omega, by omega, fun y => no (by unfold brP; simp; omega) σ3 hf5, fun y => rX12_breaks_72 fun _ => ?_⟩
              have := step σ3 hf5
              rw [eff, if_pos (show brP S L t c = true by unfold brP; simp; omega)] at this
              exact this
        exact inner 4 0 (by omega) σ1 fun c j a _ => hf1 c j a
    refine outer S.1 0 (by omega) σ0 (fun c j z => hf0 c j z) fun σ2 hf2 => ?_
    exact K σ2 (fun c k z => (hf2 c k (by omega)).trans (hf c k (by omega) (by omega) (by omega))) (h'.frameS fun c k z => hf2 c k (by unfold scrM at z; omega))
