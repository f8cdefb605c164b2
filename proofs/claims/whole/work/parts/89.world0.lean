/-! the world as the constructors leave it -/
def adF (h0 h1 : Nat) (u v : Nat → Nat) : Nat → Nat := fun c => if c < 69 then (if c = 0 then h0 else u c) else (if c = 69 then h1 else v (c - 69))
def sg0 : Sg := fun c k => if (c = 42 ∨ c = 50) ∧ k = 8 then -1 else if c = 49 ∧ k = 2 then -1 else if (c = 11 ∨ c = 76) ∧ k < 15 then 1 else 0
theorem sg0_z {c : Nat} (h : c ≠ 42 ∧ c ≠ 50 ∧ c ≠ 49 ∧ c ≠ 11 ∧ c ≠ 76) (k : Nat) : sg0 c k = 0 := by
  unfold sg0
  rw [if_neg (by omega), if_neg (by omega), if_neg (by omega)]
theorem P_cons {D : va_G} {cl : List vw_C} {x : Nat × va_E} {xs : va_W} {H : Heap} (h : va_at D cl x H) (t : va_P D cl xs H) : va_P D cl (x :: xs) H := fun k q hq => by
  cases k with
  | zero => cases hq; exact h
  | succ k => exact t k q hq
theorem arrV_congr {c : ClassId} {N : Nat} {f g : Nat → Value} (h : ∀ j, j < N → f j = g j) : arrV c N f = arrV c N g := by
  unfold arrV
  congr 2
  funext j
  exact h j.val j.isLt
theorem at_z {X : Cx} {σ : Sg} {c kd n t q : Nat} {D : va_G} {H : Heap} (hs : shp c = (kd, n)) (h20 : 20 ≤ kd) (h23 : kd < 23) (ht : kd - 20 = t) (h : va_at D vwCl (q, zA (cxY X) t n) H) (hσ : ∀ j, σ c j = 0) : va_at D vwCl (q, cont X σ c) H := by
  rw [cont_arr hs h20 h23]
  have e : (fun j => gI (σ c j)) = fun _ => (0 : Int32) := by funext j; rw [hσ, gI_0]
  rw [e, ht]
  exact h
theorem at_pr {X : Cx} {σ : Sg} {c q : Nat} {D : va_G} {H : Heap} (hs : shp c = (20, 15)) (h : va_at D vwCl (q, prA (cxY X) 15) H) (hσ : ∀ j, σ c j = if j < 15 then 1 else 0) : va_at D vwCl (q, cont X σ c) H := by
  rw [cont_arr hs (by decide) (by decide)]
  have e : (fun j => gI (σ c j)) = onesF 15 := by
    funext j
    rw [hσ]
    unfold onesF
    split
    · decide
    · exact gI_0
  rw [e]
  exact h
theorem at_q {X : Cx} {σ : Sg} {c kd t q : Nat} {f : Nat → Option Nat} {D : va_G} {H : Heap} (hs : shp c = (kd, 8)) (h23 : 23 ≤ kd) (ht : kd - 20 = t) (h : va_at D vwCl (q, .inl (cxY X t, 8, .inr (.inr (.inr (.inr f))))) H) (hf : ∀ j, j < 8 → f j = some (cxA X (c + 1 + (if kd = 23 then 1 else 3) * j))) : va_at D vwCl (q, cont X σ c) H := by
  rw [cont_ref hs h23, ht]
  have h1 : H[q]? = some (vp_cell (cxY X t) (8, .inr (.inr (.inr (.inr f))))) := h
  show H[q]? = some (vp_cell (cxY X t) (8, .inr (.inr (.inr (.inr (fun j => some (cxA X (c + 1 + (if kd = 23 then 1 else 3) * j))))))))
  rw [h1, vp_cell_q, vp_cell_q]
  congr 1
  exact arrV_congr fun j hj => by rw [hf j hj]
set_option maxHeartbeats 4000000 in
set_option maxRecDepth 100000 in
theorem world0 {l : Launch} {D : va_G} {Y : Nat → ClassId} {T : Nat → Nat} {r : Nat × Nat × (Nat → Int32)} {h0 h1 : Nat} {u v : Nat → Nat} {H : Heap} (h : va_P D vwCl (WX11 Y h0 u ++ WX12 Y h1 v) H) : va_P D vwCl (wl (l, D, Y, adF h0 h1 u v, T, r) sg0) H := by
  obtain ⟨X, hX⟩ : ∃ X : Cx, X = (l, D, Y, adF h0 h1 u v, T, r) := ⟨_, rfl⟩
  rw [← hX]
  have eY : cxY X = Y := by rw [hX]
  have eA : cxA X = adF h0 h1 u v := by rw [hX]
  show va_P D vwCl [(cxA X 0, cont X sg0 0), (cxA X 1, cont X sg0 1), (cxA X 2, cont X sg0 2), (cxA X 3, cont X sg0 3), (cxA X 4, cont X sg0 4), (cxA X 5, cont X sg0 5), (cxA X 6, cont X sg0 6), (cxA X 7, cont X sg0 7), (cxA X 8, cont X sg0 8), (cxA X 9, cont X sg0 9), (cxA X 10, cont X sg0 10), (cxA X 11, cont X sg0 11), (cxA X 12, cont X sg0 12), (cxA X 13, cont X sg0 13), (cxA X 14, cont X sg0 14), (cxA X 15, cont X sg0 15), (cxA X 16, cont X sg0 16), (cxA X 17, cont X sg0 17), (cxA X 18, cont X sg0 18), (cxA X 19, cont X sg0 19), (cxA X 20, cont X sg0 20), (cxA X 21, cont X sg0 21), (cxA X 22, cont X sg0 22), (cxA X 23, cont X sg0 23), (cxA X 24, cont X sg0 24), (cxA X 25, cont X sg0 25), (cxA X 26, cont X sg0 26), (cxA X 27, cont X sg0 27), (cxA X 28, cont X sg0 28), (cxA X 29, cont X sg0 29), (cxA X 30, cont X sg0 30), (cxA X 31, cont X sg0 31), (cxA X 32, cont X sg0 32), (cxA X 33, cont X sg0 33), (cxA X 34, cont X sg0 34), (cxA X 35, cont X sg0 35), (cxA X 36, cont X sg0 36), (cxA X 37, cont X sg0 37), (cxA X 38, cont X sg0 38), (cxA X 39, cont X sg0 39), (cxA X 40, cont X sg0 40), (cxA X 41, cont X sg0 41), (cxA X 42, cont X sg0 42), (cxA X 43, cont X sg0 43), (cxA X 44, cont X sg0 44), (cxA X 45, cont X sg0 45), (cxA X 46, cont X sg0 46), (cxA X 47, cont X sg0 47), (cxA X 48, cont X sg0 48), (cxA X 49, cont X sg0 49), (cxA X 50, cont X sg0 50), (cxA X 51, cont X sg0 51), (cxA X 52, cont X sg0 52), (cxA X 53, cont X sg0 53), (cxA X 54, cont X sg0 54), (cxA X 55, cont X sg0 55), (cxA X 56, cont X sg0 56), (cxA X 57, cont X sg0 57), (cxA X 58, cont X sg0 58), (cxA X 59, cont X sg0 59), (cxA X 60, cont X sg0 60), (cxA X 61, cont X sg0 61), (cxA X 62, cont X sg0 62), (cxA X 63, cont X sg0 63), (cxA X 64, cont X sg0 64), (cxA X 65, cont X sg0 65), (cxA X 66, cont X sg0 66), (cxA X 67, cont X sg0 67), (cxA X 68, cont X sg0 68), (cxA X 69, cont X sg0 69), (cxA X 70, cont X sg0 70), (cxA X 71, cont X sg0 71), (cxA X 72, cont X sg0 72), (cxA X 73, cont X sg0 73), (cxA X 74, cont X sg0 74), (cxA X 75, cont X sg0 75), (cxA X 76, cont X sg0 76), (cxA X 77, cont X sg0 77), (cxA X 78, cont X sg0 78), (cxA X 79, cont X sg0 79), (cxA X 80, cont X sg0 80), (cxA X 81, cont X sg0 81), (cxA X 82, cont X sg0 82), (cxA X 83, cont X sg0 83), (cxA X 84, cont X sg0 84), (cxA X 85, cont X sg0 85), (cxA X 86, cont X sg0 86), (cxA X 87, cont X sg0 87), (cxA X 88, cont X sg0 88), (cxA X 89, cont X sg0 89), (cxA X 90, cont X sg0 90), (cxA X 91, cont X sg0 91), (cxA X 92, cont X sg0 92), (cxA X 93, cont X sg0 93), (cxA X 94, cont X sg0 94), (cxA X 95, cont X sg0 95), (cxA X 96, cont X sg0 96), (cxA X 97, cont X sg0 97), (cxA X 98, cont X sg0 98)] H
  refine P_cons (by rw [hX]; exact h 0 _ rfl) ?_
  refine P_cons (by rw [hX]; exact h 1 _ rfl) ?_
  refine P_cons (by rw [eA]; exact at_q sh_2 (by decide) rfl (by rw [eY]; exact h 2 _ rfl) (fun j hj => by rw [eA]; rcases (show j = 0 ∨ j = 1 ∨ j = 2 ∨ j = 3 ∨ j = 4 ∨ j = 5 ∨ j = 6 ∨ j = 7 by omega) with rfl | rfl | rfl | rfl | rfl | rfl | rfl | rfl <;> rfl)) ?_
  refine P_cons (by rw [eA]; exact at_z sh_3 (by decide) (by decide) rfl (by rw [eY]; exact h 3 _ rfl) (sg0_z (by decide))) ?_
  refine P_cons (by rw [eA]; exact at_z sh_4 (by decide) (by decide) rfl (by rw [eY]; exact h 4 _ rfl) (sg0_z (by decide))) ?_
  refine P_cons (by rw [eA]; exact at_z sh_5 (by decide) (by decide) rfl (by rw [eY]; exact h 5 _ rfl) (sg0_z (by decide))) ?_
  refine P_cons (by rw [eA]; exact at_z sh_6 (by decide) (by decide) rfl (by rw [eY]; exact h 6 _ rfl) (sg0_z (by decide))) ?_
  refine P_cons (by rw [eA]; exact at_z sh_7 (by decide) (by decide) rfl (by rw [eY]; exact h 7 _ rfl) (sg0_z (by decide))) ?_
  refine P_cons (by rw [eA]; exact at_z sh_8 (by decide) (by decide) rfl (by rw [eY]; exact h 8 _ rfl) (sg0_z (by decide))) ?_
  refine P_cons (by rw [eA]; exact at_z sh_9 (by decide) (by decide) rfl (by rw [eY]; exact h 9 _ rfl) (sg0_z (by decide))) ?_
  refine P_cons (by rw [eA]; exact at_z sh_10 (by decide) (by decide) rfl (by rw [eY]; exact h 10 _ rfl) (sg0_z (by decide))) ?_
  refine P_cons (by rw [eA]; exact at_pr sh_11 (by rw [eY]; exact h 11 _ rfl) (fun j => by unfold sg0; rw [if_neg (by omega), if_neg (by omega)]; by_cases q : j < 15 <;> simp [q])) ?_
  refine P_cons (by rw [hX]; exact h 12 _ rfl) ?_
  refine P_cons (by rw [eA]; exact at_z sh_13 (by decide) (by decide) rfl (by rw [eY]; exact h 13 _ rfl) (sg0_z (by decide))) ?_
  refine P_cons (by rw [hX]; exact h 14 _ rfl) ?_
  refine P_cons (by rw [eA]; exact at_z sh_15 (by decide) (by decide) rfl (by rw [eY]; exact h 15 _ rfl) (sg0_z (by decide))) ?_
  refine P_cons (by rw [eA]; exact at_z sh_16 (by decide) (by decide) rfl (by rw [eY]; exact h 16 _ rfl) (sg0_z (by decide))) ?_
  refine P_cons (by rw [eA]; exact at_q sh_17 (by decide) rfl (by rw [eY]; exact h 17 _ rfl) (fun j hj => by rw [eA]; rcases (show j = 0 ∨ j = 1 ∨ j = 2 ∨ j = 3 ∨ j = 4 ∨ j = 5 ∨ j = 6 ∨ j = 7 by omega) with rfl | rfl | rfl | rfl | rfl | rfl | rfl | rfl <;> rfl)) ?_
  refine P_cons (by rw [hX]; exact h 18 _ rfl) ?_
  refine P_cons (by rw [eA]; exact at_z sh_19 (by decide) (by decide) rfl (by rw [eY]; exact h 19 _ rfl) (sg0_z (by decide))) ?_
  refine P_cons (by rw [eA]; exact at_z sh_20 (by decide) (by decide) rfl (by rw [eY]; exact h 20 _ rfl) (sg0_z (by decide))) ?_
  refine P_cons (by rw [hX]; exact h 21 _ rfl) ?_
  refine P_cons (by rw [eA]; exact at_z sh_22 (by decide) (by decide) rfl (by rw [eY]; exact h 22 _ rfl) (sg0_z (by decide))) ?_
  refine P_cons (by rw [eA]; exact at_z sh_23 (by decide) (by decide) rfl (by rw [eY]; exact h 23 _ rfl) (sg0_z (by decide))) ?_
  refine P_cons (by rw [hX]; exact h 24 _ rfl) ?_
  refine P_cons (by rw [eA]; exact at_z sh_25 (by decide) (by decide) rfl (by rw [eY]; exact h 25 _ rfl) (sg0_z (by decide))) ?_
  refine P_cons (by rw [eA]; exact at_z sh_26 (by decide) (by decide) rfl (by rw [eY]; exact h 26 _ rfl) (sg0_z (by decide))) ?_
  refine P_cons (by rw [hX]; exact h 27 _ rfl) ?_
  refine P_cons (by rw [eA]; exact at_z sh_28 (by decide) (by decide) rfl (by rw [eY]; exact h 28 _ rfl) (sg0_z (by decide))) ?_
  refine P_cons (by rw [eA]; exact at_z sh_29 (by decide) (by decide) rfl (by rw [eY]; exact h 29 _ rfl) (sg0_z (by decide))) ?_
  refine P_cons (by rw [hX]; exact h 30 _ rfl) ?_
  refine P_cons (by rw [eA]; exact at_z sh_31 (by decide) (by decide) rfl (by rw [eY]; exact h 31 _ rfl) (sg0_z (by decide))) ?_
  refine P_cons (by rw [eA]; exact at_z sh_32 (by decide) (by decide) rfl (by rw [eY]; exact h 32 _ rfl) (sg0_z (by decide))) ?_
  refine P_cons (by rw [hX]; exact h 33 _ rfl) ?_
  refine P_cons (by rw [eA]; exact at_z sh_34 (by decide) (by decide) rfl (by rw [eY]; exact h 34 _ rfl) (sg0_z (by decide))) ?_
  refine P_cons (by rw [eA]; exact at_z sh_35 (by decide) (by decide) rfl (by rw [eY]; exact h 35 _ rfl) (sg0_z (by decide))) ?_
  refine P_cons (by rw [hX]; exact h 36 _ rfl) ?_
  refine P_cons (by rw [eA]; exact at_z sh_37 (by decide) (by decide) rfl (by rw [eY]; exact h 37 _ rfl) (sg0_z (by decide))) ?_
  refine P_cons (by rw [eA]; exact at_z sh_38 (by decide) (by decide) rfl (by rw [eY]; exact h 38 _ rfl) (sg0_z (by decide))) ?_
  refine P_cons (by rw [hX]; exact h 39 _ rfl) ?_
  refine P_cons (by rw [eA]; exact at_z sh_40 (by decide) (by decide) rfl (by rw [eY]; exact h 40 _ rfl) (sg0_z (by decide))) ?_
  refine P_cons (by rw [eA]; exact at_z sh_41 (by decide) (by decide) rfl (by rw [eY]; exact h 41 _ rfl) (sg0_z (by decide))) ?_
  refine P_cons (by rw [hX]; exact h 42 _ rfl) ?_
  refine P_cons (by rw [eA]; exact at_z sh_43 (by decide) (by decide) rfl (by rw [eY]; exact h 43 _ rfl) (sg0_z (by decide))) ?_
  refine P_cons (by rw [eA]; exact at_z sh_44 (by decide) (by decide) rfl (by rw [eY]; exact h 44 _ rfl) (sg0_z (by decide))) ?_
  refine P_cons (by rw [eA]; exact at_z sh_45 (by decide) (by decide) rfl (by rw [eY]; exact h 45 _ rfl) (sg0_z (by decide))) ?_
  refine P_cons (by rw [eA]; exact at_z sh_46 (by decide) (by decide) rfl (by rw [eY]; exact h 46 _ rfl) (sg0_z (by decide))) ?_
  refine P_cons (by rw [eA]; exact at_z sh_47 (by decide) (by decide) rfl (by rw [eY]; exact h 47 _ rfl) (sg0_z (by decide))) ?_
  refine P_cons (by rw [eA]; exact at_z sh_48 (by decide) (by decide) rfl (by rw [eY]; exact h 48 _ rfl) (sg0_z (by decide))) ?_
  refine P_cons (by rw [hX]; exact h 49 _ rfl) ?_
  refine P_cons (by rw [hX]; exact h 50 _ rfl) ?_
  refine P_cons (by rw [eA]; exact at_z sh_51 (by decide) (by decide) rfl (by rw [eY]; exact h 51 _ rfl) (sg0_z (by decide))) ?_
  refine P_cons (by rw [eA]; exact at_z sh_52 (by decide) (by decide) rfl (by rw [eY]; exact h 52 _ rfl) (sg0_z (by decide))) ?_
  refine P_cons (by rw [eA]; exact at_z sh_53 (by decide) (by decide) rfl (by rw [eY]; exact h 53 _ rfl) (sg0_z (by decide))) ?_
  refine P_cons (by rw [eA]; exact at_z sh_54 (by decide) (by decide) rfl (by rw [eY]; exact h 54 _ rfl) (sg0_z (by decide))) ?_
  refine P_cons (by rw [eA]; exact at_z sh_55 (by decide) (by decide) rfl (by rw [eY]; exact h 55 _ rfl) (sg0_z (by decide))) ?_
  refine P_cons (by rw [eA]; exact at_z sh_56 (by decide) (by decide) rfl (by rw [eY]; exact h 56 _ rfl) (sg0_z (by decide))) ?_
  refine P_cons (by rw [hX]; exact h 57 _ rfl) ?_
  refine P_cons (by rw [eA]; exact at_z sh_58 (by decide) (by decide) rfl (by rw [eY]; exact h 58 _ rfl) (sg0_z (by decide))) ?_
  refine P_cons (by rw [eA]; exact at_z sh_59 (by decide) (by decide) rfl (by rw [eY]; exact h 59 _ rfl) (sg0_z (by decide))) ?_
  refine P_cons (by rw [eA]; exact at_z sh_60 (by decide) (by decide) rfl (by rw [eY]; exact h 60 _ rfl) (sg0_z (by decide))) ?_
  refine P_cons (by rw [hX]; exact h 61 _ rfl) ?_
  refine P_cons (by rw [eA]; exact at_z sh_62 (by decide) (by decide) rfl (by rw [eY]; exact h 62 _ rfl) (sg0_z (by decide))) ?_
  refine P_cons (by rw [eA]; exact at_z sh_63 (by decide) (by decide) rfl (by rw [eY]; exact h 63 _ rfl) (sg0_z (by decide))) ?_
  refine P_cons (by rw [eA]; exact at_z sh_64 (by decide) (by decide) rfl (by rw [eY]; exact h 64 _ rfl) (sg0_z (by decide))) ?_
  refine P_cons (by rw [hX]; exact h 65 _ rfl) ?_
  refine P_cons (by rw [eA]; exact at_z sh_66 (by decide) (by decide) rfl (by rw [eY]; exact h 66 _ rfl) (sg0_z (by decide))) ?_
  refine P_cons (by rw [hX]; exact h 67 _ rfl) ?_
  refine P_cons (by rw [eA]; exact at_z sh_68 (by decide) (by decide) rfl (by rw [eY]; exact h 68 _ rfl) (sg0_z (by decide))) ?_
  refine P_cons (by rw [hX]; exact h 69 _ rfl) ?_
  refine P_cons (by rw [eA]; exact at_z sh_70 (by decide) (by decide) rfl (by rw [eY]; exact h 70 _ rfl) (sg0_z (by decide))) ?_
  refine P_cons (by rw [eA]; exact at_z sh_71 (by decide) (by decide) rfl (by rw [eY]; exact h 71 _ rfl) (sg0_z (by decide))) ?_
  refine P_cons (by rw [eA]; exact at_z sh_72 (by decide) (by decide) rfl (by rw [eY]; exact h 72 _ rfl) (sg0_z (by decide))) ?_
  refine P_cons (by rw [eA]; exact at_z sh_73 (by decide) (by decide) rfl (by rw [eY]; exact h 73 _ rfl) (sg0_z (by decide))) ?_
  refine P_cons (by rw [eA]; exact at_z sh_74 (by decide) (by decide) rfl (by rw [eY]; exact h 74 _ rfl) (sg0_z (by decide))) ?_
  refine P_cons (by rw [eA]; exact at_z sh_75 (by decide) (by decide) rfl (by rw [eY]; exact h 75 _ rfl) (sg0_z (by decide))) ?_
  refine P_cons (by rw [eA]; exact at_pr sh_76 (by rw [eY]; exact h 76 _ rfl) (fun j => by unfold sg0; rw [if_neg (by omega), if_neg (by omega)]; by_cases q : j < 15 <;> simp [q])) ?_
  refine P_cons (by rw [eA]; exact at_z sh_77 (by decide) (by decide) rfl (by rw [eY]; exact h 77 _ rfl) (sg0_z (by decide))) ?_
  refine P_cons (by rw [eA]; exact at_z sh_78 (by decide) (by decide) rfl (by rw [eY]; exact h 78 _ rfl) (sg0_z (by decide))) ?_
  refine P_cons (by rw [eA]; exact at_z sh_79 (by decide) (by decide) rfl (by rw [eY]; exact h 79 _ rfl) (sg0_z (by decide))) ?_
  refine P_cons (by rw [eA]; exact at_z sh_80 (by decide) (by decide) rfl (by rw [eY]; exact h 80 _ rfl) (sg0_z (by decide))) ?_
  refine P_cons (by rw [eA]; exact at_z sh_81 (by decide) (by decide) rfl (by rw [eY]; exact h 81 _ rfl) (sg0_z (by decide))) ?_
  refine P_cons (by rw [eA]; exact at_z sh_82 (by decide) (by decide) rfl (by rw [eY]; exact h 82 _ rfl) (sg0_z (by decide))) ?_
  refine P_cons (by rw [eA]; exact at_z sh_83 (by decide) (by decide) rfl (by rw [eY]; exact h 83 _ rfl) (sg0_z (by decide))) ?_
  refine P_cons (by rw [eA]; exact at_z sh_84 (by decide) (by decide) rfl (by rw [eY]; exact h 84 _ rfl) (sg0_z (by decide))) ?_
  refine P_cons (by rw [eA]; exact at_z sh_85 (by decide) (by decide) rfl (by rw [eY]; exact h 85 _ rfl) (sg0_z (by decide))) ?_
  refine P_cons (by rw [eA]; exact at_z sh_86 (by decide) (by decide) rfl (by rw [eY]; exact h 86 _ rfl) (sg0_z (by decide))) ?_
  refine P_cons (by rw [eA]; exact at_z sh_87 (by decide) (by decide) rfl (by rw [eY]; exact h 87 _ rfl) (sg0_z (by decide))) ?_
  refine P_cons (by rw [eA]; exact at_z sh_88 (by decide) (by decide) rfl (by rw [eY]; exact h 88 _ rfl) (sg0_z (by decide))) ?_
  refine P_cons (by rw [eA]; exact at_z sh_89 (by decide) (by decide) rfl (by rw [eY]; exact h 89 _ rfl) (sg0_z (by decide))) ?_
  refine P_cons (by rw [eA]; exact at_z sh_90 (by decide) (by decide) rfl (by rw [eY]; exact h 90 _ rfl) (sg0_z (by decide))) ?_
  refine P_cons (by rw [eA]; exact at_z sh_91 (by decide) (by decide) rfl (by rw [eY]; exact h 91 _ rfl) (sg0_z (by decide))) ?_
  refine P_cons (by rw [eA]; exact at_z sh_92 (by decide) (by decide) rfl (by rw [eY]; exact h 92 _ rfl) (sg0_z (by decide))) ?_
  refine P_cons (by rw [eA]; exact at_z sh_93 (by decide) (by decide) rfl (by rw [eY]; exact h 93 _ rfl) (sg0_z (by decide))) ?_
  refine P_cons (by rw [eA]; exact at_z sh_94 (by decide) (by decide) rfl (by rw [eY]; exact h 94 _ rfl) (sg0_z (by decide))) ?_
  refine P_cons (by rw [eA]; exact at_z sh_95 (by decide) (by decide) rfl (by rw [eY]; exact h 95 _ rfl) (sg0_z (by decide))) ?_
  refine P_cons (by rw [eA]; exact at_z sh_96 (by decide) (by decide) rfl (by rw [eY]; exact h 96 _ rfl) (sg0_z (by decide))) ?_
  refine P_cons (by rw [eA]; exact at_z sh_97 (by decide) (by decide) rfl (by rw [eY]; exact h 97 _ rfl) (sg0_z (by decide))) ?_
  refine P_cons (by rw [eA]; exact at_z sh_98 (by decide) (by decide) rfl (by rw [eY]; exact h 98 _ rfl) (sg0_z (by decide))) ?_
  exact fun k q hq => by cases hq
