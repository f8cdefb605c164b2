/-! what the search keeps -/
theorem cnt_one {q q' : Nat → Bool} {s : Nat} : ∀ n, s < n → q s = true → q' s = false → (∀ t, t ≠ s → q t = q' t) → cnt q n = cnt q' n + 1
  | 0, h, _, _, _ => absurd h (by omega)
  | n + 1, h, h1, h2, h3 => by
    show cnt q n + _ = cnt q' n + _ + 1
    by_cases e : s = n
    · subst e
      rw [if_pos h1, if_neg (by simp [h2]), cnt_congr s (q := q) (q' := q') fun t ht => h3 t (by omega)]
    · rw [cnt_one n (by omega) h1 h2 h3, h3 n (by omega)]
      omega
/-- costs of the parts -/
def prtC (W : Nat → WT) (w : WT) : Prop := (prt (w.2.1 / 8) = 1 → (W w.2.2.1).1 + 1 ≤ w.1) ∧ (prt (w.2.1 / 8) = 2 → (W w.2.2.1).1 + (W w.2.2.2).1 + 1 ≤ w.1)
def AI (S : Sc) (Z : AT) : Prop := (Z.1.length + cnt (fun x => decide (x ∉ Z.1)) (2 ^ S.1) = 2 ^ S.1) ∧ (∀ d, d ∈ Z.1 → d < 2 ^ S.1) ∧ (∀ x, x ∈ Z.2.1 ↔ x ∈ Z.1) ∧ (Z.2.1.length = Z.1.length) ∧ (∀ x, shpT Z.2.1 (Z.2.2.1 x) ∧ 1 ≤ (Z.2.2.1 x).1 ∧ (Z.2.2.1 x).1 ≤ 1000) ∧ (∀ x, (Z.2.2.1 x).1 < 1000 → x = tgt S (Z.2.2.1 x) ∧ prtC Z.2.2.1 (Z.2.2.1 x)) ∧ (Z.2.1.Pairwise (fun a b => k2 Z.2.1 (Z.2.2.1 a) < k2 Z.2.1 (Z.2.2.1 b))) ∧ (∀ d, d ∈ Z.1 → (Z.2.2.1 d).1 < 1000) ∧ (∀ d, d ∈ Z.1 → ∀ x, x < 2 ^ S.1 → x ∉ Z.1 → (Z.2.2.1 d).1 ≤ (Z.2.2.1 x).1) ∧ (Z.1.Pairwise (fun a b => (Z.2.2.1 a).1 ≤ (Z.2.2.1 b).1)) ∧ (∀ d, d ∈ Z.1 → 1 ≤ Z.2.2.2 d ∧ (Z.2.2.2 d : Int) ≤ (Z.2.2.1 d).1 ∧ Z.2.2.2 d = lenW Z.2.2.2 (Z.2.2.1 d))
theorem AI.len {S : Sc} {Z : AT} (h : AI S Z) : Z.1.length + cnt (fun x => decide (x ∉ Z.1)) (2 ^ S.1) = 2 ^ S.1 := h.1
theorem AI.lt {S : Sc} {Z : AT} (h : AI S Z) : ∀ d, d ∈ Z.1 → d < 2 ^ S.1 := h.2.1
theorem AI.mem {S : Sc} {Z : AT} (h : AI S Z) : ∀ x, x ∈ Z.2.1 ↔ x ∈ Z.1 := h.2.2.1
theorem AI.rlen {S : Sc} {Z : AT} (h : AI S Z) : Z.2.1.length = Z.1.length := h.2.2.2.1
theorem AI.way {S : Sc} {Z : AT} (h : AI S Z) : ∀ x, shpT Z.2.1 (Z.2.2.1 x) ∧ 1 ≤ (Z.2.2.1 x).1 ∧ (Z.2.2.1 x).1 ≤ 1000 := h.2.2.2.2.1
theorem AI.tg {S : Sc} {Z : AT} (h : AI S Z) : ∀ x, (Z.2.2.1 x).1 < 1000 → x = tgt S (Z.2.2.1 x) ∧ prtC Z.2.2.1 (Z.2.2.1 x) := h.2.2.2.2.2.1
theorem AI.srt {S : Sc} {Z : AT} (h : AI S Z) : Z.2.1.Pairwise (fun a b => k2 Z.2.1 (Z.2.2.1 a) < k2 Z.2.1 (Z.2.2.1 b)) := h.2.2.2.2.2.2.1
theorem AI.fin {S : Sc} {Z : AT} (h : AI S Z) : ∀ d, d ∈ Z.1 → (Z.2.2.1 d).1 < 1000 := h.2.2.2.2.2.2.2.1
theorem AI.low {S : Sc} {Z : AT} (h : AI S Z) : ∀ d, d ∈ Z.1 → ∀ x, x < 2 ^ S.1 → x ∉ Z.1 → (Z.2.2.1 d).1 ≤ (Z.2.2.1 x).1 := h.2.2.2.2.2.2.2.2.1
theorem AI.ord {S : Sc} {Z : AT} (h : AI S Z) : Z.1.Pairwise (fun a b => (Z.2.2.1 a).1 ≤ (Z.2.2.1 b).1) := h.2.2.2.2.2.2.2.2.2.1
theorem AI.lng {S : Sc} {Z : AT} (h : AI S Z) : ∀ d, d ∈ Z.1 → 1 ≤ Z.2.2.2 d ∧ (Z.2.2.2 d : Int) ≤ (Z.2.2.1 d).1 ∧ Z.2.2.2 d = lenW Z.2.2.2 (Z.2.2.1 d) := h.2.2.2.2.2.2.2.2.2.2
theorem AI.small {S : Sc} {Z : AT} (h : AI S Z) (h8 : S.1 ≤ 8) : Z.1.length ≤ 256 := by
  have := h.len
  have := pow_lt8 h8
  omega
theorem offN_ok {S : Sc} {P : Nat → Int} {wd : Nat} (hP : okP P) : ∀ f ∈ offN S P wd, f.1 = tgt S f.2 ∧ shpT [] f.2 ∧ 1 ≤ f.2.1 ∧ f.2.1 ≤ 9 ∧ prt (f.2.2.1 / 8) = 0 := by
  intro f hf
  unfold offN nameL at hf
  obtain ⟨c, hc, rfl⟩ := List.mem_map.mp hf
  obtain ⟨w, hw, hc⟩ := List.mem_flatMap.mp hc
  have hw4 : w < 4 := List.mem_range.mp hw
  split at hc
  · unfold hearL at hc
    obtain ⟨v, hv, rfl⟩ := List.mem_map.mp hc
    have hv4 : v < max 1 (nms w) := List.mem_range.mp hv
    have hn := nms_le w
    have e : (8 * w + v) / 8 = w := by omega
    have p0 : prt w = 0 := by unfold prt; rw [if_pos hw4]
    have q := hP w (by omega)
    have p0' : prt ((8 * w + v) / 8) = 0 := by rw [e]; exact p0
    refine ⟨?_, ⟨?_, fun _ => ⟨rfl, rfl⟩, fun z => ?_, fun z => ?_⟩, ?_, ?_, p0'⟩
    · unfold tgt
      rw [if_pos p0']
    · show 8 * w + v < 120; omega
    · have z : prt ((8 * w + v) / 8) = 1 := z
      omega
    · have z : prt ((8 * w + v) / 8) = 2 := z
      omega
    · show 1 ≤ P ((8 * w + v) / 8); rw [e]; omega
    · show P ((8 * w + v) / 8) ≤ 9; rw [e]; omega
  · cases hc
theorem off_ok {S : Sc} {P : Nat → Int} {wd s : Nat} {W : Nat → WT} {D R : List Nat} (hP : okP P) (hW : ∀ x, 1 ≤ (W x).1) (hs : s ∈ R) (hD : ∀ o ∈ D, o ∈ R) : ∀ f ∈ offT S P wd W s ++ offJ P wd W D s, f.1 = tgt S f.2 ∧ shpT R f.2 ∧ (W s).1 + 1 ≤ f.2.1 ∧ prtC W f.2 := by
  intro f hf
  rcases List.mem_append.mp hf with hf | hf
  · unfold offT at hf
    obtain ⟨w, hw, rfl⟩ := List.mem_map.mp hf
    have hw2 := List.mem_filter.mp hw
    have hw15 : w < 15 := List.mem_range.mp hw2.1
    have p1 : prt w = 1 := by have := hw2.2; simp at this; exact this.1
    have e : 8 * w / 8 = w := by omega
    have p1' : prt (8 * w / 8) = 1 := by rw [e]; exact p1
    have q := hP w hw15
    refine ⟨?_, ⟨?_, fun z => ?_, fun _ => ⟨hs, rfl⟩, fun z => ?_⟩, ?_, fun _ => ?_, fun z => ?_⟩
    · unfold tgt
      rw [if_neg (by show ¬ prt (8 * w / 8) = 0; omega), if_pos p1']
      show F_turn S w s = F_turn S (8 * w / 8) s
      rw [e]
    · show 8 * w < 120; omega
    · have z : prt (8 * w / 8) = 0 := z
      omega
    · have z : prt (8 * w / 8) = 2 := z
      omega
    · show (W s).1 + 1 ≤ (W s).1 + P w; omega
    · show (W s).1 + 1 ≤ (W s).1 + P w; omega
    · have z : prt (8 * w / 8) = 2 := z
      omega
  · unfold offJ at hf
    obtain ⟨w, hw, hf⟩ := List.mem_flatMap.mp hf
    have hw2 := List.mem_filter.mp hw
    have hw15 : w < 15 := List.mem_range.mp hw2.1
    have p2 : prt w = 2 := by have := hw2.2; simp at this; exact this.1
    have e : 8 * w / 8 = w := by omega
    have p2' : prt (8 * w / 8) = 2 := by rw [e]; exact p2
    have q := hP w hw15
    obtain ⟨o, ho, hf⟩ := List.mem_flatMap.mp hf
    have hoR := hD o ho
    have ws := hW s
    have wo := hW o
    have gen : ∀ a b : Nat, a ∈ R → b ∈ R → (W a).1 + (W b).1 = (W s).1 + (W o).1 → f = (F_join w a b, ((W s).1 + (W o).1 + P w, 8 * w, a, b)) → f.1 = tgt S f.2 ∧ shpT R f.2 ∧ (W s).1 + 1 ≤ f.2.1 ∧ prtC W f.2 := by
      intro a b ha hb hab hfe
      subst hfe
      refine ⟨?_, ⟨?_, fun z => ?_, fun z => ?_, fun _ => ⟨ha, hb⟩⟩, ?_, fun z => ?_, fun _ => ?_⟩
      · unfold tgt
        rw [if_neg (by show ¬ prt (8 * w / 8) = 0; omega), if_neg (by show ¬ prt (8 * w / 8) = 1; omega)]
        show F_join w a b = F_join (8 * w / 8) a b
        rw [e]
      · show 8 * w < 120; omega
      · have z : prt (8 * w / 8) = 0 := z
        omega
      · have z : prt (8 * w / 8) = 1 := z
        omega
      · show (W s).1 + 1 ≤ (W s).1 + (W o).1 + P w; omega
      · have z : prt (8 * w / 8) = 1 := z
        omega
      · show (W a).1 + (W b).1 + 1 ≤ (W s).1 + (W o).1 + P w; omega
    unfold offJ1 at hf
    rcases List.mem_cons.mp hf with hf | hf
    · exact gen s o hs hoR rfl hf
    · exact gen o s hoR hs (by omega) (List.mem_singleton.mp hf)
