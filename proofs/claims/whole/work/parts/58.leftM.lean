def nxI (Z : AT) (n : Nat) : Int := match nxtW Z n with
  | none => -1
  | some m => (m : Int)
theorem m_cheapestLeft {X : Cx} {Z : AT} {σ : Sg} {Q : Int → Sg → Prop} {S : Sc} (h : atM S σ) (hZ : okZ Z) (hs : srM Z σ) (K : Q (nxI Z (2 ^ S.1)) σ) : KX12_cheapestLeft X σ Q := by
  have h8 := h.2.1
  have p8 := pow_lt8 h8
  have p0 := Nat.two_pow_pos S.1
  have fa : ((F_all S : Nat) : Int) = ((2 ^ S.1 : Nat) : Int) - 1 := by unfold F_all; omega
  generalize hN : 2 ^ S.1 = N at *
  refine eX12_cheapestLeft (rX12_cheapestLeft_0 fun _ => ?_)
  have loop : ∀ d i : Nat, i + d = N → GX12_cheapestLeft_4 X (nxI Z i) i σ Q := by
    intro d
    induction d with
    | zero =>
      intro i hi
      have : i = N := by omega
      subst this
      refine rX12_cheapestLeft_4 fun _ => m_every h fun _ => ⟨by omega, by omega, fun _ => K, fun z => by omega⟩
    | succ d ih =>
      intro i hi
      have nx := ih (i + 1) (by omega)
      obtain ⟨h84, hw, h90, -⟩ := hs i (by omega)
      have hW := (hZ.2.2.2.1 i).2
      have ni := nxtW_is Z i
      have e : nxtW Z (i + 1) = (match nxtW Z i with
        | none => if i ∉ Z.1 ∧ (Z.2.2.1 i).1 < 1000 then some i else none
        | some m => if i ∉ Z.1 ∧ (Z.2.2.1 i).1 < (Z.2.2.1 m).1 then some i else some m) := rfl
      unfold nxI at nx ⊢
      rw [e] at nx
      have old : ∀ v : Int, (match nxtW Z (i + 1) with | none => (-1 : Int) | some m => (m : Int)) = v → GX12_cheapestLeft_55 X v i σ Q := fun v hv => by
        rw [e] at hv
        rw [hv] at nx
        exact rX12_cheapestLeft_55 fun _ => rX12_cheapestLeft_56 fun _ => nx
      have new : ∀ v : Int, (match nxtW Z (i + 1) with | none => (-1 : Int) | some m => (m : Int)) = ((i : Nat) : Int) → GX12_cheapestLeft_51 X v i σ Q := fun v hv => by
        rw [e] at hv
        rw [hv] at nx
        exact rX12_cheapestLeft_51 fun _ => rX12_cheapestLeft_56 fun _ => nx
      rw [e] at old new
      refine rX12_cheapestLeft_4 fun _ => m_every h fun _ => ⟨by omega, by omega, fun z => by omega, fun _ => ⟨by omega, ?_⟩⟩
      rw [show σ 90 ((i : Int).toNat) = _ from h90, show σ 84 ((i : Int).toNat) = _ from h84]
      cases en : nxtW Z i with
      | none =>
        rw [en] at old new
        simp only [] at old new ⊢
        by_cases c1 : i ∈ Z.1
        · rw [if_pos c1]
          exact ⟨fun _ => old (-1) (by rw [if_neg (fun y => y.1 c1)]), fun z => absurd z (by decide)⟩
        · rw [if_neg c1]
          refine ⟨fun z => absurd rfl z, fun _ => ⟨by omega, ?_⟩⟩
          by_cases c2 : (Z.2.2.1 i).1 < 1000
          · rw [if_pos c2]
            exact ⟨fun z => by omega, fun _ => ⟨by decide, fun _ => new (-1) (by rw [if_pos ⟨c1, c2⟩]), fun z => absurd (by trivial) z⟩⟩
          · rw [if_neg c2]
            exact ⟨fun _ => old (-1) (by rw [if_neg (fun y => c2 y.2)]), fun z => absurd rfl z⟩
      | some m =>
        rw [en] at old new ni
        simp only [] at old new ni ⊢
        obtain ⟨m1, m2, m3, m4⟩ := ni
        have hm := (hs m (by omega)).1
        rw [if_pos m3] at hm
        by_cases c1 : i ∈ Z.1
        · rw [if_pos c1]
          exact ⟨fun _ => old m (by rw [if_neg (fun y => y.1 c1)]), fun z => absurd z (by decide)⟩
        · rw [if_neg c1]
          refine ⟨fun z => absurd rfl z, fun _ => ⟨by omega, ?_⟩⟩
          by_cases c2 : (Z.2.2.1 i).1 < 1000
          · rw [if_pos c2]
            refine ⟨fun z => by omega, fun _ => ⟨by omega, fun z => by omega, fun _ => ⟨by omega, by omega, ?_⟩⟩⟩
            rw [show σ 84 ((m : Int).toNat) = _ from hm]
            exact ⟨fun z => old m (by rw [if_neg (fun y => by have := y.2; omega)]), fun z => new m (by rw [if_pos ⟨c1, z⟩])⟩
          · rw [if_neg c2]
            exact ⟨fun _ => old m (by rw [if_neg (fun y => by have := y.2; omega)]), fun z => absurd rfl z⟩
  exact loop N 0 (by omega)
