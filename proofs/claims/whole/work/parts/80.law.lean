/-! THE LAW: its loop -/
theorem opWrite_ok {A : AS} {w n : Int} (h : okA A) : okA (opWrite A w n).2 := by
  unfold opWrite
  split
  · split
    · exact h
    · exact h
  · exact h
theorem InvC.low {A : AS} {m : Nat} {σ σ' : Sg} (hA : okA A) (h : InvC CKK A m σ) (hf : ∀ c k, c < 69 → σ' c k = σ c k) : InvC CKK A m σ' := h.frame okCKK hA.2.2.1.1 fun c k z => hf c k (by unfold scr at z; omega)
set_option maxHeartbeats 4000000 in
theorem law_go {X : Cx} (hN : cxN X ≤ 2560) : ∀ (d m : Nat) (A : AS) (σ : Sg), cxN X < 5 * (m + d) + 5 → 5 * m ≤ cxN X → InvC CKK A m σ → InvM A σ → okA A → GLw_18 X ((5 * m : Nat) : Int) σ (fun r _ => r = 1) := by
  have hcN : cxN X < 2147483648 := by omega
  intro d
  induction d with
  | zero =>
    intro m A σ hd h5 h hM hA
    exact rLw_18 hcN fun _ => ⟨by omega, by omega, fun _ => rfl, fun z => by omega⟩
  | succ d ih =>
    intro m A σ hd h5 h hM hA
    refine rLw_18 hcN fun _ => ⟨by omega, by omega, fun _ => rfl, fun z => ?_⟩
    have hm : m < 1000 := by omega
    have b0 : 0 ≤ ((5 * m : Nat) : Int) ∧ ((5 * m : Nat) : Int) < cxN X := by omega
    have b1 : 0 ≤ ((5 * m : Nat) : Int) + 1 ∧ ((5 * m : Nat) : Int) + 1 < cxN X := by omega
    have b2 : 0 ≤ ((5 * m : Nat) : Int) + 2 ∧ ((5 * m : Nat) : Int) + 2 < cxN X := by omega
    have b3 : 0 ≤ ((5 * m : Nat) : Int) + 3 ∧ ((5 * m : Nat) : Int) + 3 < cxN X := by omega
    have b4 : 0 ≤ ((5 * m : Nat) : Int) + 4 ∧ ((5 * m : Nat) : Int) + 4 < cxN X := by omega
    have mf : ∀ σ1, (∀ c k, 69 ≤ c → σ1 c k = σ c k) → InvM A σ1 := fun σ1 f => hM.frame f
    have go : ∀ (B : AS) (σ1 σ2 : Sg), okA B → InvC CKK B (m + 1) σ1 → (∀ c k, c < 69 → σ2 c k = σ1 c k) → InvM B σ2 → GLw_853 X ((5 * m : Nat) : Int) σ2 (fun r _ => r = 1) := fun B σ1 σ2 hB i1 f2 j2 => by
      have := ih (m + 1) B σ2 (by omega) (by omega) (i1.low hB f2) j2 hB
      refine rLw_853 hcN fun _ => ?_
      rw [show ((5 * m : Nat) : Int) + 5 = ((5 * (m + 1) : Nat) : Int) by omega]
      exact this
    refine ⟨b0, ?_, ?_, ?_, ?_, ?_, ?_, ?_, ?_, ?_, ?_, ?_, ?_, ?_, ?_, ?_, ?_, ?_, ?_, ?_, ?_, ?_, ?_, ?_, ?_, ?_, ?_⟩
    · exact fun _ => ⟨b1, b2, b3, b4, c_thing h hA hm (inI_to _) (inI_to _) (inI_to _) (inI_to _) _ fun σ1 f1 i1 => fun _ => ⟨b1, b2, b3, b4, m_thing (mf σ1 f1) hA (inI_to _) (inI_to _) (inI_to _) (inI_to _) _ fun σ2 f2 j2 => fun _ => ⟨fun _ => go _ σ1 σ2 (opThing_ok hA) i1 f2 j2, fun q => absurd rfl q⟩⟩⟩
    · exact fun _ => ⟨b1, b2, b3, c_paint h hA hm (inI_to _) (inI_to _) (inI_to _) _ fun σ1 f1 i1 => fun _ => ⟨b1, b2, b3, m_paint (mf σ1 f1) hA (inI_to _) (inI_to _) (inI_to _) _ fun σ2 f2 j2 => fun _ => ⟨fun _ => go _ σ1 σ2 (opPaint_ok hA) i1 f2 j2, fun q => absurd rfl q⟩⟩⟩
    · exact fun _ => ⟨b1, b2, c_tie h hA hm (inI_to _) (inI_to _) _ fun σ1 f1 i1 => fun _ => ⟨b1, b2, m_tie (mf σ1 f1) hA (inI_to _) (inI_to _) _ fun σ2 f2 j2 => fun _ => ⟨fun _ => go _ σ1 σ2 (opTie_ok hA) i1 f2 j2, fun q => absurd rfl q⟩⟩⟩
    · exact fun _ => ⟨b1, b2, c_of h (inI_to _) (inI_to _) _ fun σ1 f1 i1 => fun _ => ⟨b1, b2, m_of (mf σ1 f1) hA (inI_to _) (inI_to _) _ fun σ2 f2 j2 => fun _ => ⟨fun _ => go _ σ1 σ2 hA i1 f2 j2, fun q => absurd rfl q⟩⟩⟩
    · exact fun _ => ⟨b1, b2, c_price h hm (inI_to _) (inI_to _) _ fun σ1 f1 i1 => fun _ => ⟨b1, b2, m_price (mf σ1 f1) (inI_to _) (inI_to _) _ fun σ2 f2 j2 => fun _ => ⟨fun _ => go _ σ1 σ2 (opPrice_ok hA) i1 f2 j2, fun q => absurd rfl q⟩⟩⟩
    · exact fun _ => ⟨b1, b2, b3, c_write okCKK h hA (inI_to _) _ fun σ1 f1 i1 => fun _ => ⟨b1, b2, b3, m_write (mf σ1 f1) (inI_to _) _ fun σ2 f2 j2 => fun _ => ⟨fun _ => go _ σ1 σ2 (opWrite_ok hA) i1 f2 j2, fun q => absurd rfl q⟩⟩⟩
    · exact fun _ => c_erase okCKK h hA _ fun σ1 f1 i1 => fun _ => m_erase (mf σ1 f1) _ fun σ2 f2 j2 => fun _ => ⟨fun _ => go (opErase A).2 σ1 σ2 hA i1 f2 j2, fun q => absurd rfl q⟩
    · exact fun _ => c_fault okCKK h hA _ fun σ1 f1 i1 => fun _ => m_fault (mf σ1 f1) _ fun σ2 f2 j2 => fun _ => ⟨fun _ => go _ σ1 σ2 hA i1 f2 j2, fun q => absurd rfl q⟩
    · exact fun _ => ⟨b1, c_says okCKK h hA (inI_to _) _ fun σ1 f1 i1 => fun _ => ⟨b1, m_says (mf σ1 f1) hA (inI_to _) _ fun σ2 f2 j2 => fun _ => ⟨fun _ => go _ σ1 σ2 hA i1 f2 j2, fun q => absurd rfl q⟩⟩⟩
    · exact fun _ => c_keep okCKK h hA _ fun σ1 f1 i1 => fun _ => m_keep (mf σ1 f1) hA _ fun σ2 f2 j2 => fun _ => ⟨fun _ => go _ σ1 σ2 (opKeep_ok hA) i1 f2 j2, fun q => absurd rfl q⟩
    · exact fun _ => ⟨b1, b2, c_kept okCKK h hA (inI_to _) (inI_to _) _ fun σ1 f1 i1 => fun _ => ⟨b1, b2, m_kept (mf σ1 f1) hA (inI_to _) (inI_to _) _ fun σ2 f2 j2 => fun _ => ⟨fun _ => go _ σ1 σ2 hA i1 f2 j2, fun q => absurd rfl q⟩⟩⟩
    · exact fun _ => ⟨b1, b2, b3, c_cheapest h hA (inI_to _) (inI_to _) (inI_to _) _ fun σ1 f1 i1 => fun _ => ⟨b1, b2, b3, m_cheapest (mf σ1 f1) hA (inI_to _) (inI_to _) (inI_to _) _ fun σ2 f2 j2 => fun _ => ⟨fun _ => go _ σ1 σ2 hA i1 f2 j2, fun q => absurd rfl q⟩⟩⟩
    · exact fun _ => ⟨b1, c_sets h hA (inI_to _) _ fun σ1 f1 i1 => fun _ => ⟨b1, m_sets (mf σ1 f1) hA (inI_to _) _ fun σ2 f2 j2 => fun _ => ⟨fun _ => go _ σ1 σ2 hA i1 f2 j2, fun q => absurd rfl q⟩⟩⟩
    · exact fun _ => ⟨b1, c_quick h hA (inI_to _) _ fun σ1 f1 i1 => fun _ => ⟨b1, m_quick (mf σ1 f1) hA (inI_to _) _ fun σ2 f2 j2 => fun _ => ⟨fun _ => go _ σ1 σ2 hA i1 f2 j2, fun q => absurd rfl q⟩⟩⟩
    · exact fun _ => ⟨b1, b2, c_twin okCKK h hA (inI_to _) (inI_to _) _ fun σ1 f1 i1 => fun _ => ⟨b1, b2, m_twin (mf σ1 f1) hA (inI_to _) (inI_to _) _ fun σ2 f2 j2 => fun _ => ⟨fun _ => go _ σ1 σ2 hA i1 f2 j2, fun q => absurd rfl q⟩⟩⟩
    · exact fun _ => c_breaks okCKK h hA _ fun σ1 f1 i1 => fun _ => m_breaks (mf σ1 f1) hA _ fun σ2 f2 j2 => fun _ => ⟨fun _ => go _ σ1 σ2 hA i1 f2 j2, fun q => absurd rfl q⟩
    · exact fun _ => ⟨b1, b2, c_hears okCKK h hA (inI_to _) (inI_to _) _ fun σ1 f1 i1 => fun _ => ⟨b1, b2, m_hears (mf σ1 f1) hA (inI_to _) (inI_to _) _ fun σ2 f2 j2 => fun _ => ⟨fun _ => go _ σ1 σ2 hA i1 f2 j2, fun q => absurd rfl q⟩⟩⟩
    · exact fun _ => ⟨b1, b2, c_tells okCKK h hA (inI_to _) (inI_to _) _ fun σ1 f1 i1 => fun _ => ⟨b1, b2, m_tells (mf σ1 f1) hA (inI_to _) (inI_to _) _ fun σ2 f2 j2 => fun _ => ⟨fun _ => go _ σ1 σ2 hA i1 f2 j2, fun q => absurd rfl q⟩⟩⟩
    · exact fun _ => c_ends okCKK h hA _ fun σ1 f1 i1 => fun _ => m_ends (mf σ1 f1) hA _ fun σ2 f2 j2 => fun _ => ⟨fun _ => go _ σ1 σ2 hA i1 f2 j2, fun q => absurd rfl q⟩
    · exact fun _ => ⟨b1, c_wrong okCKK h hA (inI_to _) _ fun σ1 f1 i1 => fun _ => ⟨b1, m_wrong (mf σ1 f1) hA (inI_to _) _ fun σ2 f2 j2 => fun _ => ⟨fun _ => go _ σ1 σ2 hA i1 f2 j2, fun q => absurd rfl q⟩⟩⟩
    · exact fun _ => ⟨b1, c_name okCKK h hA (inI_to _) _ fun σ1 f1 i1 => fun _ => ⟨b1, m_name (mf σ1 f1) hA (inI_to _) _ fun σ2 f2 j2 => fun _ => ⟨fun _ => go _ σ1 σ2 (opName_ok hA) i1 f2 j2, fun q => absurd rfl q⟩⟩⟩
    · exact fun _ => c_hush okCKK h hA _ fun σ1 f1 i1 => fun _ => m_hush (mf σ1 f1) _ fun σ2 f2 j2 => fun _ => ⟨fun _ => go (opHush A).2 σ1 σ2 (opHush_ok hA) i1 f2 j2, fun q => absurd rfl q⟩
    · exact fun _ => ⟨b1, c_talk h hA (inI_to _) _ fun σ1 f1 i1 => fun _ => ⟨b1, m_talk (mf σ1 f1) hA (inI_to _) _ fun σ2 f2 j2 => fun _ => ⟨fun _ => go _ σ1 σ2 hA i1 f2 j2, fun q => absurd rfl q⟩⟩⟩
    · exact fun _ => ⟨b1, b2, c_worth h hA (inI_to _) (inI_to _) _ fun σ1 f1 i1 => fun _ => ⟨b1, b2, m_worth (mf σ1 f1) hA (inI_to _) (inI_to _) _ fun σ2 f2 j2 => fun _ => ⟨fun _ => go _ σ1 σ2 hA i1 f2 j2, fun q => absurd rfl q⟩⟩⟩
    · exact fun _ => ⟨b1, c_count h (inI_to _) _ fun σ1 f1 i1 => fun _ => ⟨b1, m_count (mf σ1 f1) hA (inI_to _) _ fun σ2 f2 j2 => fun _ => ⟨fun _ => go _ σ1 σ2 hA i1 f2 j2, fun q => absurd rfl q⟩⟩⟩
    · exact fun _ => go A σ σ hA h.more (fun _ _ _ => rfl) hM
