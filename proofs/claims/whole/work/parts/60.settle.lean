theorem cnt_nodup : ∀ (l : List Nat) (n : Nat), l.Nodup → (∀ x, x ∈ l → x < n) → cnt (fun x => decide (x ∈ l)) n = l.length
  | [], n, _, _ => by
    have : ∀ n, cnt (fun x => decide (x ∈ ([] : List Nat))) n = 0 := fun n => by
      induction n with
      | zero => rfl
      | succ n ih => show cnt _ n + _ = 0; rw [ih]; simp
    exact this n
  | a :: l, n, h, hl => by
    have hn := List.nodup_cons.mp h
    have ih := cnt_nodup l n hn.2 fun x hx => hl x (List.mem_cons_of_mem _ hx)
    rw [cnt_one n (s := a) (q' := fun x => decide (x ∈ l)) (hl a List.mem_cons_self) (by simp) (by simpa using hn.1) (fun t ht => by simp [ht]), ih]
    rfl
/-- where a set is put in -/
theorem AI_pos {S : Sc} {Z : AT} {s : Nat} (h8 : S.1 ≤ 8) (h : AI S Z) (hsD : s ∉ Z.1) (hsc : (Z.2.2.1 s).1 < 1000) : ∃ l1 l2, Z.2.1 = l1 ++ l2 ∧ insW Z.2.1 Z.2.2.1 s Z.2.1 = l1 ++ s :: l2 ∧ s ∉ l1 ++ l2 ∧ l1.length = cnt (fun x => decide (x ∈ Z.1) && decide (k2 Z.2.1 (Z.2.2.1 x) < k2 Z.2.1 (Z.2.2.1 s))) (2 ^ S.1) := by
  obtain ⟨l1, l2, hR, hR', hl1, hl2⟩ := insW_is Z.2.1 Z.2.2.1 s Z.2.1
  have hsR : s ∉ Z.2.1 := fun z => hsD ((h.mem s).mp z)
  have hR2 : Z.2.1.length ≤ 256 := by have := h.small h8; have := h.rlen; omega
  have ne : ∀ o, o ∈ Z.2.1 → k2 Z.2.1 (Z.2.2.1 s) ≠ k2 Z.2.1 (Z.2.2.1 o) := fun o ho e => by
    have sh : ∀ w : WT, shpT Z.2.1 w → shpT Z.2.1 (0, w.2) := fun w hw => hw
    have := ky_inj hR2 (sh _ (h.way s).1) (sh _ (h.way o).1) e
    have e2 : (Z.2.2.1 s).2 = (Z.2.2.1 o).2 := (Prod.mk.inj this).2
    have t1 := (h.tg s hsc).1
    have t2 := (h.tg o (h.fin o ((h.mem o).mp ho))).1
    rw [tgt_2 e2, ← t2] at t1
    exact hsR (t1 ▸ ho)
  have sr := h.srt
  have nd : Z.2.1.Nodup := sr.imp fun {a b} hab e => by rw [e] at hab; omega
  have after : ∀ o, o ∈ l2 → ¬ k2 Z.2.1 (Z.2.2.1 o) < k2 Z.2.1 (Z.2.2.1 s) := by
    rw [hR] at sr
    have sr2 := (List.pairwise_append.mp sr).2.1
    cases hl : l2 with
    | nil => intro o ho; exact absurd ho List.not_mem_nil
    | cons x xs =>
      rw [hl] at sr2 hl2
      have a := hl2 x rfl
      intro o ho
      rcases List.mem_cons.mp ho with rfl | ho
      · exact a
      · have := (List.pairwise_cons.mp sr2).1 o ho
        rw [← hl, ← hR] at this
        omega
  have nd1 : l1.Nodup := by rw [hR] at nd; exact (List.nodup_append.mp nd).1
  refine ⟨l1, l2, hR, hR', by rw [← hR]; exact hsR, ?_⟩
  have hl : ∀ x, x ∈ l1 → x < 2 ^ S.1 := fun x hx => h.lt x ((h.mem x).mp (by rw [hR]; exact List.mem_append.mpr (Or.inl hx)))
  rw [← cnt_nodup l1 _ nd1 hl]
  refine cnt_congr _ fun x _ => ?_
  rw [← Bool.decide_and]
  apply decide_eq_decide.mpr
  constructor
  · exact fun hx => ⟨(h.mem x).mp (by rw [hR]; exact List.mem_append.mpr (Or.inl hx)), hl1 x hx⟩
  · rintro ⟨a, b⟩
    have := (h.mem x).mpr a
    rw [hR] at this
    rcases List.mem_append.mp this with q | q
    · exact q
    · exact absurd b (after x q)
theorem AI.okZ {S : Sc} {Z : AT} (h8 : S.1 ≤ 8) (h : AI S Z) : okZ Z := ⟨by have := h.small h8; have := h.rlen; omega, h.mem, fun x hx => by have := h.lt x hx; have := pow_lt8 h8; omega, h.way, h.fin⟩
theorem zdiv8 : ∀ c : Nat, c < 120 → zdiv (c : Int) 8 = ((c / 8 : Nat) : Int) := by decide +kernel
