/-! one step of the search -/
def k2 (R : List Nat) (w : WT) : Int := ky R (0, w.2)
def insW (R : List Nat) (W : Nat → WT) (s : Nat) : List Nat → List Nat
  | [] => [s]
  | o :: rs => if k2 R (W o) < k2 R (W s) then o :: insW R W s rs else s :: o :: rs
theorem insW_is (R : List Nat) (W : Nat → WT) (s : Nat) : ∀ l : List Nat, ∃ l1 l2, l = l1 ++ l2 ∧ insW R W s l = l1 ++ s :: l2 ∧ (∀ o ∈ l1, k2 R (W o) < k2 R (W s)) ∧ (∀ o, l2.head? = some o → ¬ k2 R (W o) < k2 R (W s))
  | [] => ⟨[], [], rfl, rfl, fun o h => absurd h List.not_mem_nil, fun o h => by cases (show (none : Option Nat) = some o from h)⟩
  | o :: rs => by
    unfold insW
    split
    · rename_i c
      obtain ⟨l1, l2, h1, h2, h3, h4⟩ := insW_is R W s rs
      refine ⟨o :: l1, l2, by rw [h1]; rfl, by rw [h2]; rfl, fun u hu => ?_, h4⟩
      rcases List.mem_cons.mp hu with rfl | hu
      · exact c
      · exact h3 u hu
    · rename_i c
      refine ⟨[], o :: rs, rfl, rfl, fun u hu => absurd hu List.not_mem_nil, fun u hu => ?_⟩
      have e : o = u := Option.some.inj hu
      rw [← e]; exact c
theorem rk_app1 {l1 l2 : List Nat} {a : Nat} (h : a ∈ l1) : rkF (l1 ++ l2) a = rkF l1 a := by
  unfold rkF
  rw [List.idxOf_append, if_pos h]
theorem rk_app2 {l1 l2 : List Nat} {a : Nat} (h : a ∉ l1) : rkF (l1 ++ l2) a = l1.length + rkF l2 a := by
  unfold rkF
  rw [List.idxOf_append, if_neg h]
  omega
theorem rk_cons {s a : Nat} {l : List Nat} (h : a ≠ s) : rkF (s :: l) a = rkF l a + 1 := by
  unfold rkF
  rw [List.idxOf_cons, show (s == a) = false by simpa using fun e : s = a => h e.symm]
  rfl
theorem rk_self {s : Nat} {l : List Nat} : rkF (s :: l) s = 0 := by
  unfold rkF
  rw [List.idxOf_cons]; simp
/-- ranks after a set was put in -/
theorem rk_ins {l1 l2 : List Nat} {s a : Nat} (ha : a ≠ s) : rkF (l1 ++ s :: l2) a = (if rkF (l1 ++ l2) a < l1.length then rkF (l1 ++ l2) a else rkF (l1 ++ l2) a + 1) := by
  by_cases q : a ∈ l1
  · rw [rk_app1 q, rk_app1 q]
    have := List.idxOf_lt_length_of_mem q
    unfold rkF
    rw [if_pos this]
  · rw [rk_app2 q, rk_app2 q, rk_cons ha, if_neg (by omega)]
    omega
theorem rk_ins_s {l1 l2 : List Nat} {s : Nat} (h : s ∉ l1) : rkF (l1 ++ s :: l2) s = l1.length := by
  rw [rk_app2 h, rk_self]; rfl
theorem k2_lex {R : List Nat} {u v : WT} (hR : R.length ≤ 256) (hu : u.2.1 < 120) (hv : v.2.1 < 120) : (k2 R u < k2 R v ↔ (u.2.1 < v.2.1 ∨ (u.2.1 = v.2.1 ∧ (rkF R u.2.2.1 < rkF R v.2.2.1 ∨ (rkF R u.2.2.1 = rkF R v.2.2.1 ∧ rkF R u.2.2.2 < rkF R v.2.2.2))))) := by
  have := (ky_lex (u := (0, u.2)) (v := (0, v.2)) hR hu hv).1
  unfold k2
  rw [this]
  constructor
  · rintro (h | ⟨_, h⟩)
    · exact absurd h (by show ¬ (0 : Int) < 0; omega)
    · exact h
  · exact fun h => Or.inr ⟨rfl, h⟩
theorem k2_keep {l1 l2 : List Nat} {s : Nat} {u v : WT} (hR : (l1 ++ l2).length + 1 ≤ 256) (hs : s ∉ l1 ++ l2) (hu : shpT (l1 ++ l2) u) (hv : shpT (l1 ++ l2) v) : k2 (l1 ++ s :: l2) u < k2 (l1 ++ s :: l2) v ↔ k2 (l1 ++ l2) u < k2 (l1 ++ l2) v := by
  have hR' : (l1 ++ s :: l2).length ≤ 256 := by simp at hR ⊢; omega
  rw [k2_lex hR' hu.1 hv.1, k2_lex (by omega) hu.1 hv.1]
  by_cases e : u.2.1 = v.2.1
  · obtain ⟨-, a0, a1, a2⟩ := hu
    obtain ⟨-, b0, b1, b2⟩ := hv
    rw [← e] at b0 b1 b2
    have mem : ∀ x, x ∈ l1 ++ l2 → x ≠ s := fun x hx e => hs (e ▸ hx)
    have mono : ∀ x y, x ∈ l1 ++ l2 → y ∈ l1 ++ l2 → ((rkF (l1 ++ s :: l2) x < rkF (l1 ++ s :: l2) y ↔ rkF (l1 ++ l2) x < rkF (l1 ++ l2) y) ∧ (rkF (l1 ++ s :: l2) x = rkF (l1 ++ s :: l2) y ↔ rkF (l1 ++ l2) x = rkF (l1 ++ l2) y)) := fun x y hx hy => by
      rw [rk_ins (mem x hx), rk_ins (mem y hy)]
      constructor <;> split <;> split <;> omega
    rcases prt_3 (u.2.1 / 8) with p | p | p
    · rw [(a0 p).1, (a0 p).2, (b0 p).1, (b0 p).2]
      omega
    · rw [(a1 p).2, (b1 p).2]
      have m := mono _ _ (a1 p).1 (b1 p).1
      omega
    · have m := mono _ _ (a2 p).1 (b2 p).1
      have m' := mono _ _ (a2 p).2 (b2 p).2
      omega
  · omega
abbrev OF : Type := Nat × WT
def appW (R D : List Nat) (W : Nat → WT) (f : OF) : Nat → WT := fun x => if x = f.1 ∧ x ∉ D then updW R (W x) f.2 else W x
theorem appW_fold (R D : List Nat) : ∀ (l : List OF) (W : Nat → WT) (x : Nat), l.foldl (appW R D) W x = if x ∈ D then W x else (((l.filter (fun f => decide (f.1 = x))).map (fun f => f.2)).foldl (updW R) (W x))
  | [], W, x => by
    rw [List.foldl_nil]
    split <;> rfl
  | f :: fs, W, x => by
    rw [List.foldl_cons, appW_fold R D fs (appW R D W f) x]
    by_cases q : x ∈ D
    · rw [if_pos q, if_pos q]
      exact if_neg (fun z => z.2 q)
    · rw [if_neg q, if_neg q]
      by_cases e : f.1 = x
      · rw [List.filter_cons_of_pos (by simpa using e), List.map_cons, List.foldl_cons]
        congr 1
        exact if_pos ⟨e.symm, q⟩
      · rw [List.filter_cons_of_neg (by simpa using e)]
        congr 1
        exact if_neg (fun z => e z.1.symm)
def noneW : WT := (1000, 0, 0, 0)
def tgt (S : Sc) (w : WT) : Nat := if prt (w.2.1 / 8) = 0 then F_named S w.2.1 else if prt (w.2.1 / 8) = 1 then F_turn S (w.2.1 / 8) w.2.2.1 else F_join (w.2.1 / 8) w.2.2.1 w.2.2.2
def nameL (wd : Nat) : List Nat := (List.range 4).flatMap (fun w => if wd.testBit w then hearL w else [])
def offN (S : Sc) (P : Nat → Int) (wd : Nat) : List OF := (nameL wd).map (fun c => (F_named S c, (P (c / 8), c, 0, 0)))
def offT (S : Sc) (P : Nat → Int) (wd : Nat) (W : Nat → WT) (s : Nat) : List OF := ((List.range 15).filter (fun w => decide (prt w = 1) && wd.testBit w)).map (fun w => (F_turn S w s, ((W s).1 + P w, 8 * w, s, 0)))
def offJ1 (P : Nat → Int) (W : Nat → WT) (w s o : Nat) : List OF := [(F_join w s o, ((W s).1 + (W o).1 + P w, 8 * w, s, o)), (F_join w o s, ((W s).1 + (W o).1 + P w, 8 * w, o, s))]
def offJ (P : Nat → Int) (wd : Nat) (W : Nat → WT) (D : List Nat) (s : Nat) : List OF := ((List.range 15).filter (fun w => decide (prt w = 2) && wd.testBit w)).flatMap (fun w => D.flatMap (fun o => offJ1 P W w s o))
abbrev AT : Type := List Nat × List Nat × (Nat → WT) × (Nat → Nat)
def lenW (Ln : Nat → Nat) (w : WT) : Nat := 1 + (if 0 < prt (w.2.1 / 8) then Ln w.2.2.1 else 0) + (if 1 < prt (w.2.1 / 8) then Ln w.2.2.2 else 0)
def stepW (S : Sc) (P : Nat → Int) (wd : Nat) (Z : AT) (s : Nat) : AT :=
  (Z.1 ++ [s], insW Z.2.1 Z.2.2.1 s Z.2.1, (offT S P wd Z.2.2.1 s ++ offJ P wd Z.2.2.1 (Z.1 ++ [s]) s).foldl (appW (insW Z.2.1 Z.2.2.1 s Z.2.1) (Z.1 ++ [s])) Z.2.2.1, fun x => if x = s then lenW Z.2.2.2 (Z.2.2.1 s) else Z.2.2.2 x)
def startW (S : Sc) (P : Nat → Int) (wd : Nat) : AT := ([], [], (offN S P wd).foldl (appW [] []) (fun _ => noneW), fun _ => 0)
/-- the first of the cheapest sets that are left, among the first n -/
def nxtW (Z : AT) : Nat → Option Nat
  | 0 => none
  | n + 1 => match nxtW Z n with
    | none => if n ∉ Z.1 ∧ (Z.2.2.1 n).1 < 1000 then some n else none
    | some m => if n ∉ Z.1 ∧ (Z.2.2.1 n).1 < (Z.2.2.1 m).1 then some n else some m
theorem nxtW_is (Z : AT) : ∀ n, match nxtW Z n with
    | none => ∀ x, x < n → x ∉ Z.1 → 1000 ≤ (Z.2.2.1 x).1
    | some m => m < n ∧ m ∉ Z.1 ∧ (Z.2.2.1 m).1 < 1000 ∧ (∀ x, x < n → x ∉ Z.1 → (Z.2.2.1 m).1 ≤ (Z.2.2.1 x).1)
  | 0 => fun x hx => by omega
  | n + 1 => by
    have ih := nxtW_is Z n
    unfold nxtW
    cases e : nxtW Z n with
    | none =>
      rw [e] at ih
      simp only [] at ih ⊢
      by_cases c : n ∉ Z.1 ∧ (Z.2.2.1 n).1 < 1000
      · rw [if_pos c]
        refine ⟨by omega, c.1, c.2, fun x hx hn => ?_⟩
        rcases Nat.lt_succ_iff_lt_or_eq.mp hx with q | rfl
        · have := ih x q hn; omega
        · exact Int.le_refl _
      · rw [if_neg c]
        intro x hx hn
        rcases Nat.lt_succ_iff_lt_or_eq.mp hx with q | rfl
        · exact ih x q hn
        · rcases Int.lt_or_le (Z.2.2.1 x).1 1000 with q | q
          · exact absurd ⟨hn, q⟩ c
          · exact q
    | some m =>
      rw [e] at ih
      simp only [] at ih ⊢
      by_cases c : n ∉ Z.1 ∧ (Z.2.2.1 n).1 < (Z.2.2.1 m).1
      · rw [if_pos c]
        refine ⟨by omega, c.1, by omega, fun x hx hn => ?_⟩
        rcases Nat.lt_succ_iff_lt_or_eq.mp hx with q | rfl
        · have := ih.2.2.2 x q hn; omega
        · exact Int.le_refl _
      · rw [if_neg c]
        refine ⟨by omega, ih.2.1, ih.2.2.1, fun x hx hn => ?_⟩
        rcases Nat.lt_succ_iff_lt_or_eq.mp hx with q | rfl
        · exact ih.2.2.2 x q hn
        · rcases Int.lt_or_le (Z.2.2.1 x).1 (Z.2.2.1 m).1 with q | q
          · exact absurd ⟨hn, q⟩ c
          · exact q
