/-! THE LAYER: an abstract world of 99 cells of whole numbers, and a judgement VV over it -/
def gI (x : Int) : Int32 := Int32.ofInt x
def gJ (x : Int) : Int64 := Int64.ofInt x
abbrev inI (x : Int) : Prop := -2147483648 ≤ x ∧ x < 2147483648
abbrev inJ (x : Int) : Prop := -9223372036854775808 ≤ x ∧ x < 9223372036854775808
theorem gI_to {x : Int} (h : inI x) : (gI x).toInt = x := Int32.toInt_ofInt_of_le h.1 h.2
theorem gJ_to {x : Int} (h : inJ x) : (gJ x).toInt = x := Int64.toInt_ofInt_of_le h.1 h.2
theorem gI_of (x : Int32) : gI x.toInt = x := Int32.ofInt_toInt x
theorem gJ_of (x : Int64) : gJ x.toInt = x := Int64.ofInt_toInt x
theorem inI_to (x : Int32) : inI x.toInt := ⟨Int32.le_toInt x, Int32.toInt_lt x⟩
theorem inJ_to (x : Int64) : inJ x.toInt := ⟨Int64.le_toInt x, Int64.toInt_lt x⟩
theorem gI_add (x y : Int) : gI (x + y) = gI x + gI y := Int32.ofInt_add x y
theorem gI_sub (x y : Int) : gI (x - y) = gI x - gI y := Int32.ofInt_sub x y
theorem gI_mul (x y : Int) : gI (x * y) = gI x * gI y := Int32.ofInt_mul x y
theorem gJ_add (x y : Int) : gJ (x + y) = gJ x + gJ y := Int64.ofInt_add x y
theorem gJ_sub (x y : Int) : gJ (x - y) = gJ x - gJ y := Int64.ofInt_sub x y
theorem gJ_mul (x y : Int) : gJ (x * y) = gJ x * gJ y := Int64.ofInt_mul x y
theorem gI_lt {x y : Int} (hx : inI x) (hy : inI y) : gI x < gI y ↔ x < y := by rw [Int32.lt_iff_toInt_lt, gI_to hx, gI_to hy]
theorem gI_le {x y : Int} (hx : inI x) (hy : inI y) : gI x ≤ gI y ↔ x ≤ y := by rw [Int32.le_iff_toInt_le, gI_to hx, gI_to hy]
theorem gI_eq {x y : Int} (hx : inI x) (hy : inI y) : gI x = gI y ↔ x = y := by
  refine ⟨fun h => ?_, fun h => by rw [h]⟩
  have := congrArg Int32.toInt h
  rwa [gI_to hx, gI_to hy] at this
theorem gJ_eq {x y : Int} (hx : inJ x) (hy : inJ y) : gJ x = gJ y ↔ x = y := by
  refine ⟨fun h => ?_, fun h => by rw [h]⟩
  have := congrArg Int64.toInt h
  rwa [gJ_to hx, gJ_to hy] at this
theorem gI_0 : gI 0 = 0 := by decide
theorem inI_0 : inI 0 := by decide
theorem gI_cl {x : Int} (h : inI x) : (gI x).toNatClampNeg = x.toNat := by
  show (gI x).toInt.toNat = x.toNat
  rw [gI_to h]
theorem gI_in {x : Int} {n : Nat} (hn : n < 2147483648) (h0 : 0 ≤ x) (h1 : x < n) : vp_in (gI x) n ∧ (gI x).toNatClampNeg = x.toNat := by
  have hi : inI x := ⟨by omega, by omega⟩
  exact ⟨vp_in_iff.mpr (by rw [gI_to hi]; exact ⟨h0, h1⟩), gI_cl hi⟩
/-! bit operations on numbers, by way of the machine's own -/
def zand (x y : Int) : Int := (gI x &&& gI y).toInt
def zor (x y : Int) : Int := (gI x ||| gI y).toInt
def zxor (x y : Int) : Int := (gI x ^^^ gI y).toInt
def zshl (x y : Int) : Int := (gI x <<< (gI y &&& 31)).toInt
def zshr (x y : Int) : Int := (gI x >>> (gI y &&& 31)).toInt
def zushr (x y : Int) : Int := ((gI x).toUInt32 >>> ((gI y).toUInt32 &&& Int32.toUInt32 31)).toInt32.toInt
def zdiv (x y : Int) : Int := (gI x / gI y).toInt
def zrem (x y : Int) : Int := (gI x - gI x / gI y * gI y).toInt
def jand (x y : Int) : Int := (gJ x &&& gJ y).toInt
def jor (x y : Int) : Int := (gJ x ||| gJ y).toInt
def jshl (x y : Int) : Int := (gJ x <<< ((gI y).toInt64 &&& 63)).toInt
def jshr (x y : Int) : Int := (gJ x >>> ((gI y).toInt64 &&& 63)).toInt
def jtoi (x : Int) : Int := (gJ x).toInt32.toInt
def jcmp (x y : Int) : Int := if x < y then -1 else if x = y then 0 else 1
/-! the world: 99 cells; what each is (kind, length), by its place -/
abbrev Sg : Type := Nat → Nat → Int
def up2 (σ : Sg) (c k : Nat) (x : Int) : Sg := fun c' k' => if c' = c ∧ k' = k then x else σ c' k'
theorem up2_s (σ : Sg) (c k : Nat) (x : Int) : up2 σ c k x c k = x := if_pos ⟨rfl, rfl⟩
theorem up2_nc (σ : Sg) {c k c' k' : Nat} (x : Int) (h : c' ≠ c) : up2 σ c k x c' k' = σ c' k' := if_neg (fun q => h q.1)
theorem up2_nk (σ : Sg) {c k c' k' : Nat} (x : Int) (h : k' ≠ k) : up2 σ c k x c' k' = σ c' k' := if_neg (fun q => h q.2)
abbrev MI : Type := MethodName × ByteArray × Nat × Option FieldType × Room
abbrev Cx : Type := Launch × va_G × (Nat → ClassId) × (Nat → Nat) × (Nat → Nat) × (Nat × Nat × (Nat → Int32))
abbrev cxL (X : Cx) : Launch := X.1
abbrev cxD (X : Cx) : va_G := X.2.1
abbrev cxY (X : Cx) : Nat → ClassId := X.2.2.1
abbrev cxA (X : Cx) : Nat → Nat := X.2.2.2.1
abbrev cxT (X : Cx) : Nat → Nat := X.2.2.2.2.1
abbrev cxB (X : Cx) : Nat := X.2.2.2.2.2.1
abbrev cxN (X : Cx) : Nat := X.2.2.2.2.2.2.1
abbrev cxS (X : Cx) : Nat → Int32 := X.2.2.2.2.2.2.2
/-- the fields of the objects of a kind: 0 an int, 1 a long, n + 2 the object's n-th next cell -/
def ofl : Nat → List Nat
  | 0 => [3,0,0,0,0]
  | 1 => [3,4,5,0]
  | 2 => [3,0,0]
  | 3 => [3,4,0]
  | 4 => [3,0,0]
  | 5 => [3,0]
  | 6 => [3,4,0,0,0]
  | 7 => [3,4,5]
  | 8 => [3,4,5,6,7,8,0,0,0,0,0,0]
  | 9 => [3,13,14,19,44,51,59,63,67,69,0,0]
  | 10 => [0,3,4,5,6,7,8,9,0,10,0,0,1,0,0,0,0,11,12,13,0,14,15,16,17,18,19,20,21,22,23,24,25,26,27,28,29,30,0,0,31]
  | _ => []
def shpL : List (Nat × Nat) := [(9, 0), (4, 0), (23, 8), (20, 8), (20, 8), (20, 8), (20, 8), (20, 8), (20, 8), (20, 8), (20, 8), (20, 15), (6, 0), (22, 160), (3, 0), (20, 24), (20, 24), (24, 8), (3, 0), (20, 24), (20, 24), (3, 0), (20, 24), (20, 24), (3, 0), (20, 24), (20, 24), (3, 0), (20, 24), (20, 24), (3, 0), (20, 24), (20, 24), (3, 0), (20, 24), (20, 24), (3, 0), (20, 24), (20, 24), (3, 0), (20, 24), (20, 24), (8, 0), (20, 256), (20, 256), (20, 256), (20, 256), (20, 256), (20, 256), (0, 0), (8, 0), (20, 256), (20, 256), (20, 256), (20, 256), (20, 256), (20, 256), (7, 0), (20, 8), (20, 8), (20, 8), (1, 0), (20, 8), (20, 8), (20, 8), (2, 0), (20, 256), (5, 0), (20, 12), (10, 0), (20, 8), (20, 8), (20, 8), (20, 8), (20, 8), (20, 8), (20, 15), (20, 160), (20, 24), (20, 24), (20, 26), (20, 8), (20, 192), (20, 192), (20, 256), (20, 256), (20, 256), (20, 256), (20, 256), (20, 256), (21, 256), (20, 8), (20, 8), (20, 8), (20, 8), (20, 8), (20, 8), (20, 256), (20, 12)]
def shp (c : Nat) : Nat × Nat := shpL.getD c (99, 0)
def Rng (σ : Sg) : Prop := (∀ c k, ¬(c = 69 ∧ k = 12) → inI (σ c k)) ∧ inJ (σ 69 12)
def fval (X : Cx) (σ : Sg) (c k : Nat) : Nat → Value
  | 0 => .int (gI (σ c k))
  | 1 => .long (gJ (σ c k))
  | n + 2 => .ref (cxA X (c + n))
def fvs (X : Cx) (σ : Sg) (c : Nat) : Nat → List Nat → List Value
  | _, [] => []
  | k, t :: ts => fval X σ c k t :: fvs X σ c (k + 1) ts
def contK (X : Cx) (σ : Sg) (c kd n : Nat) : va_E :=
  if kd < 20 then .inr (kd, fvs X σ c 0 (ofl kd)) else if kd < 23 then .inl (cxY X (kd - 20), n, .inl (fun j => gI (σ c j)))
  else .inl (cxY X (kd - 20), n, .inr (.inr (.inr (.inr (fun j => some (cxA X (c + 1 + (if kd = 23 then 1 else 3) * j)))))))
def cont (X : Cx) (σ : Sg) (c : Nat) : va_E := contK X σ c (shp c).1 (shp c).2
def wl (X : Cx) (σ : Sg) : va_W := (List.range 99).map (fun c => (cxA X c, cont X σ c))
def tys (X : Cx) : List (ClassId × FieldType) := [(cxY X 0, .int), (cxY X 1, .boolean), (cxY X 2, .char), (cxY X 3, .array .int), (cxY X 4, .object "GreenDoor$Saying")]
def AX (X : Cx) : Nat → Prop := fun q => ∃ c, c < 99 ∧ q = cxA X c
def DX (X : Cx) : Prop := ∀ i j, i < 99 → j < 99 → cxA X i = cxA X j → i = j
def World (X : Cx) (σ : Sg) (s : State) (H : Heap) : Prop := va_P (cxD X) vwCl (wl X σ) H ∧ va_K (cxD X) vwCl (tys X) s ∧ DX X ∧ Rng σ
def stn : Nat → String × String
  | 0 => ("GreenDoor$Scene", "LEAST_LOOK")
  | 1 => ("GreenDoor$Scene", "GREATEST_LOOK")
  | 2 => ("GreenDoor$Words", "NUMBERS")
  | 3 => ("GreenDoor$Words", "PARTS")
  | 4 => ("GreenDoor$Words", "FIRST_LIKE")
  | _ => ("GreenDoor$Words", "LAST_LIKE")
def stv : Nat → List Int
  | 0 => [0, 0, 1, 0]
  | 1 => [3, 3, 9, 7]
  | 2 => [0, 4, 4, 3, 0, 0, 0, 0, 0, 0, 0, 0, 0, 0, 0]
  | 3 => [0, 0, 0, 0, 1, 2, 2, 2, 1, 1, 1, 1, 1, 1, 1]
  | 4 => [0, 1, 2, 3, 4, 5, 5, 5, 8, 8, 10, 10, 12, 12, 14]
  | _ => [0, 1, 2, 3, 4, 7, 7, 7, 9, 9, 11, 11, 13, 13, 14]
def namL : List Int32 := [97, 108, 108, 32, 32, 32, 32, 32, 107, 105, 110, 100, 32, 32, 32, 32, 99, 111, 108, 111, 117, 114, 32, 32, 109, 97, 114, 107, 32, 32, 32, 32, 110, 111, 116, 32, 32, 32, 32, 32, 97, 110, 100, 32, 32, 32, 32, 32, 111, 114, 32, 32, 32, 32, 32, 32, 98, 117, 116, 32, 32, 32, 32, 32, 98, 101, 115, 105, 100, 101, 32, 32, 116, 105, 101, 100, 32, 32, 32, 32, 109, 111, 115, 116, 32, 32, 32, 32, 108, 101, 97, 115, 116, 32, 32, 32, 108, 101, 102, 116, 109, 111, 115, 116, 115, 101, 99, 111, 110, 100, 32, 32, 111, 110, 108, 121, 32, 32, 32, 32]
/-- what was there before the world was made: the static rows, the text of the words' names, the script -/
def Stc (X : Cx) (A : Nat → Prop) (s : State) (H : Heap) : Prop :=
  (∀ k, k < 6 → va_Z (stn k).1 (stn k).2 "[B" (.ref (cxT X k)) A s H ∧ va_T .byte (cxT X k) (stv k).length (fun j => .int (gI ((stv k).getD j 0))) A s H) ∧
  (va_X (cxB X) (cxN X) (cxS X) s H ∧ ¬ A (cxB X) ∧ cxB X < H.size) ∧
  (∃ tx, vk_R "GreenDoor$Words" 33 tx (cxT X 6) s) ∧ vk_S 1 [120] [namL] (fun _ => cxT X 6) (fun _ => cxT X 7) A s H ∧
  va_Z "java/lang/String" "COMPACT_STRINGS" "Z" (.int 1) A s H ∧ va_Zq "jdk/internal/util/Preconditions" "SIOOBE_FORMATTER" "Ljava/util/function/BiFunction;" A s H ∧
  ∀ (a : String) (i : Nat) (x : MethodName) (h : String), Cond.methodLinkNest a i x h ∈ lw_tbl → va_Nw (.methodLinkNest a i x h) s
theorem Stc.kept {X : Cx} {A : Nat → Prop} {s : State} {H H1 : Heap} (h : Stc X A s H) (hz : H.size ≤ H1.size) (hq : ∀ a : Nat, a < H.size → ¬ A a → H1[a]? = H[a]?) : Stc X A s H1 := by
  obtain ⟨h1, ⟨h2, h3, h4⟩, h5, h6, h7, h8, h9⟩ := h
  exact ⟨fun k hk => ⟨(h1 k hk).1.kept hq, (h1 k hk).2.kept hq⟩, ⟨h2.kept (hq _ h4 h3), h3, Nat.lt_of_lt_of_le h4 hz⟩, h5, h6.kept hq, h7.kept hq, h8.kept hq, h9⟩
theorem Stc.warm {X : Cx} {A : Nat → Prop} {s U : State} {H : Heap} (hW : s.WarmedH U.vm) (h : Stc X A s H) : Stc X A U H := by
  obtain ⟨h1, ⟨h2, h3, h4⟩, ⟨tx, h5⟩, h6, h7, h8, h9⟩ := h
  exact ⟨fun k hk => ⟨(h1 k hk).1.moved hW.alike, (h1 k hk).2.moved hW.alike⟩, ⟨h2.moved hW.alike, h3, h4⟩, ⟨tx, h5.warm hW⟩, h6.moved hW.alike, h7.moved hW.alike, h8.moved hW.alike, fun a i x h q => (h9 a i x h q).warmM hW⟩
theorem Stc.narrow {X : Cx} {A B : Nat → Prop} {s : State} {H : Heap} (h : Stc X A s H) (hAB : ∀ q, B q → A q) : Stc X B s H := by
  obtain ⟨h1, ⟨h2, h3, h4⟩, h5, h6, h7, h8, h9⟩ := h
  exact ⟨fun k hk => ⟨(h1 k hk).1.narrow hAB, (h1 k hk).2.narrow hAB⟩, ⟨h2, fun q => h3 (hAB _ q), h4⟩, h5, h6.narrow hAB, h7.narrow hAB, h8.narrow hAB, h9⟩
theorem wl_get {X : Cx} {σ : Sg} {c : Nat} (h : c < 99) : (wl X σ)[c]? = some (cxA X c, cont X σ c) := by
  unfold wl
  rw [List.getElem?_map, List.getElem?_range h]
  rfl
theorem shp_lt {c : Nat} (h : (shp c).1 < 99) : c < 99 := by
  unfold shp at h
  rw [List.getD_eq_getElem?_getD] at h
  rcases Nat.lt_or_ge c 99 with q | q
  · exact q
  · rw [List.getElem?_eq_none (by exact q)] at h
    exact absurd h (Nat.lt_irrefl _)
theorem wl_D {X : Cx} {σ : Sg} {A : Nat → Prop} (h : DX X) (hA : ∀ q, AX X q → A q) : va_D A (wl X σ) := by
  have key : ∀ (i : Nat) (p : Nat × va_E), (wl X σ)[i]? = some p → i < 99 ∧ p.1 = cxA X i := by
    intro i p hp
    have hi : i < 99 := by
      have := (List.getElem?_eq_some_iff.mp hp).1
      simpa [wl] using this
    rw [wl_get hi] at hp
    exact ⟨hi, by rw [← Option.some.inj hp]⟩
  refine ⟨fun i j p q hp hq e => ?_, fun k q hq => ?_⟩
  · obtain ⟨hi, e1⟩ := key i p hp
    obtain ⟨hj, e2⟩ := key j q hq
    exact h i j hi hj (by rw [← e1, ← e2, e])
  · obtain ⟨hk, e1⟩ := key k q hq
    exact hA _ ⟨k, hk, e1⟩
theorem cont_obj {X : Cx} {σ : Sg} {c ci n : Nat} (h : shp c = (ci, n)) (hc : ci < 20) : cont X σ c = .inr (ci, fvs X σ c 0 (ofl ci)) := by
  unfold cont contK; rw [h]; exact if_pos hc
theorem cont_arr {X : Cx} {σ : Sg} {c ci n : Nat} (h : shp c = (ci, n)) (h1 : 20 ≤ ci) (h2 : ci < 23) : cont X σ c = .inl (cxY X (ci - 20), n, .inl (fun j => gI (σ c j))) := by
  unfold cont contK; rw [h]; rw [if_neg (Nat.not_lt.mpr h1)]; exact if_pos h2
theorem cont_ref {X : Cx} {σ : Sg} {c ci n : Nat} (h : shp c = (ci, n)) (h1 : 23 ≤ ci) : cont X σ c = .inl (cxY X (ci - 20), n, .inr (.inr (.inr (.inr (fun j => some (cxA X (c + 1 + (if ci = 23 then 1 else 3) * j))))))) := by
  unfold cont contK; rw [h]; rw [if_neg (show ¬ ci < 20 by omega)]; exact if_neg (show ¬ ci < 23 by omega)
theorem fvs_get {X : Cx} {σ : Sg} {c : Nat} : ∀ (L : List Nat) (k0 k t : Nat), L[k]? = some t → (fvs X σ c k0 L)[k]? = some (fval X σ c (k0 + k) t)
  | [], _, _, _, h => by simp at h
  | t :: ts, k0, 0, t', h => by simp at h; subst h; rfl
  | t :: ts, k0, k + 1, t', h => by
    have h' : ts[k]? = some t' := by simpa using h
    have := fvs_get (X := X) (σ := σ) (c := c) ts (k0 + 1) k t' h'
    show (fvs X σ c (k0 + 1) ts)[k]? = _
    rw [this, show k0 + 1 + k = k0 + (k + 1) by omega]
theorem fvs_len {X : Cx} {σ : Sg} {c : Nat} : ∀ (L : List Nat) (k0 : Nat), (fvs X σ c k0 L).length = L.length
  | [], _ => rfl
  | _ :: ts, k0 => by show (fvs X σ c (k0 + 1) ts).length + 1 = _; rw [fvs_len ts]; rfl
theorem fval_ne {X : Cx} {σ : Sg} {c k k' : Nat} (x : Int) (h : k' ≠ k) : ∀ t, fval X (up2 σ c k x) c k' t = fval X σ c k' t
  | 0 => by show Value.int (gI (up2 σ c k x c k')) = _; rw [up2_nk σ x h]; rfl
  | 1 => by show Value.long (gJ (up2 σ c k x c k')) = _; rw [up2_nk σ x h]; rfl
  | _ + 2 => rfl
theorem fvs_off {X : Cx} {σ : Sg} {c k : Nat} (x : Int) : ∀ (L : List Nat) (k0 : Nat), k < k0 → fvs X (up2 σ c k x) c k0 L = fvs X σ c k0 L
  | [], _, _ => rfl
  | t :: ts, k0, h => by
    show fval X (up2 σ c k x) c k0 t :: fvs X (up2 σ c k x) c (k0 + 1) ts = fval X σ c k0 t :: fvs X σ c (k0 + 1) ts
    rw [fval_ne x (by omega), fvs_off x ts (k0 + 1) (by omega)]
theorem fvs_set {X : Cx} {σ : Sg} {c : Nat} (x : Int) : ∀ (L : List Nat) (k0 k t : Nat), L[k]? = some t → (fvs X σ c k0 L).set k (fval X (up2 σ c (k0 + k) x) c (k0 + k) t) = fvs X (up2 σ c (k0 + k) x) c k0 L
  | [], _, _, _, h => by simp at h
  | t :: ts, k0, 0, t', h => by
    simp at h; subst h
    show fval X (up2 σ c (k0 + 0) x) c (k0 + 0) t :: fvs X σ c (k0 + 1) ts = fval X (up2 σ c (k0 + 0) x) c k0 t :: fvs X (up2 σ c (k0 + 0) x) c (k0 + 1) ts
    rw [fvs_off x ts (k0 + 1) (by omega)]
    rfl
  | t :: ts, k0, k + 1, t', h => by
    have h' : ts[k]? = some t' := by simpa using h
    have := fvs_set (X := X) (σ := σ) (c := c) x ts (k0 + 1) k t' h'
    rw [show k0 + 1 + k = k0 + (k + 1) by omega] at this
    show fval X σ c k0 t :: (fvs X σ c (k0 + 1) ts).set k _ = fval X (up2 σ c (k0 + (k + 1)) x) c k0 t :: fvs X (up2 σ c (k0 + (k + 1)) x) c (k0 + 1) ts
    rw [this, fval_ne x (by omega)]
theorem fvs_ext {X : Cx} {σ σ' : Sg} {c : Nat} (h : ∀ k, σ' c k = σ c k) : ∀ (L : List Nat) (k0 : Nat), fvs X σ' c k0 L = fvs X σ c k0 L
  | [], _ => rfl
  | t :: ts, k0 => by
    show fval X σ' c k0 t :: fvs X σ' c (k0 + 1) ts = fval X σ c k0 t :: fvs X σ c (k0 + 1) ts
    rw [fvs_ext h ts (k0 + 1)]
    congr 1
    match t with
    | 0 => show Value.int _ = Value.int _; rw [h]
    | 1 => show Value.long _ = Value.long _; rw [h]
    | _ + 2 => rfl
theorem cont_ext {X : Cx} {σ σ' : Sg} {c : Nat} (h : ∀ k, σ' c k = σ c k) : cont X σ' c = cont X σ c := by
  unfold cont contK
  rw [fvs_ext h]
  simp only [h]
theorem wl_set {X : Cx} {σ σ' : Sg} {c : Nat} (hc : c < 99) (h : ∀ c' k, c' ≠ c → σ' c' k = σ c' k) : (wl X σ).set c (cxA X c, cont X σ' c) = wl X σ' := by
  apply List.ext_getElem?
  intro i
  rw [List.getElem?_set]
  by_cases e : c = i
  · subst e
    rw [if_pos rfl, if_pos (by simpa [wl] using hc), wl_get hc]
  · rw [if_neg e]
    by_cases hi : i < 99
    · rw [wl_get hi, wl_get hi, cont_ext (fun k => h i k (fun q => e q.symm))]
    · rw [List.getElem?_eq_none (by simp [wl]; omega), List.getElem?_eq_none (by simp [wl]; omega)]
theorem Rng.up {σ : Sg} (h : Rng σ) {c k : Nat} {x : Int} (hx : inI x) : Rng (up2 σ c k x) := by
  refine ⟨fun c' k' hn => ?_, ?_⟩
  · unfold up2
    split
    · exact hx
    · exact h.1 c' k' hn
  · unfold up2
    split
    · exact ⟨by omega, by omega⟩
    · exact h.2
theorem Rng.upJ {σ : Sg} (h : Rng σ) {x : Int} (hx : inJ x) : Rng (up2 σ 69 12 x) := by
  refine ⟨fun c' k' hn => ?_, ?_⟩
  · unfold up2
    rw [if_neg hn]
    exact h.1 c' k' hn
  · unfold up2
    exact hx
def gdT : List Cond := lw_tbl.filter goodWord
def wsM (M : MI) : List Cond := Cond.code M.1 M.2.1 M.2.2.1 M.2.2.2.1 :: gdT
/-- what stays the same all along a method's walk -/
def VC (X : Cx) (M : MI) (p : Program) (s : State) (m : MethodId) (args : Array Value) (meth : Method) (c : Code) (A : Nat → Prop) (cells slots : Nat) : Prop :=
  p.tables.exec = Jvm.exec ∧ c.code = M.2.1 ∧ c.maxLocals = M.2.2.1 ∧ meth.sig.returnType = M.2.2.2.1 ∧ meth.locks = false ∧ s.vm.findClass M.1.cls = some m.cls ∧ (∀ w ∈ gdT, w.before args s = true) ∧ (∀ q, AX X q → A q) ∧ Stc X A s s.heap ∧ cells ≤ M.2.2.2.2.cells ∧ slots ≤ M.2.2.2.2.slots
def retv (X : Cx) (ret : Option FieldType) (r : Int) : Option Value := match ret with
  | none => none
  | some (.object _) => some (.ref (cxA X r.toNat))
  | some _ => some (.int (gI r))
def retOK (M : MI) (pc : Nat) (r : Int) : Prop := match M.2.2.2.1 with
  | none => decode M.2.1 pc = .ok (.return_, 1)
  | some (.object _) => decode M.2.1 pc = .ok (.areturn, 1)
  | some ty => decode M.2.1 pc = .ok (.ireturn, 1) ∧ narrow ty (.int (gI r)) = .int (gI r)
def VV (X : Cx) (M : MI) (pc : Nat) (L : List (Nat × Value)) (st : List Value) (σ : Sg) (Q : Int → Sg → Prop) : Prop :=
  ∀ (p : Program) (e : Env) (s : State) (m : MethodId) (args : Array Value) (below : List Frame) (meth : Method) (c : Code) (A : Nat → Prop) (cells slots : Nat) (Z : State → Prop), VC X M p s m args meth c A cells slots →
    (∀ (r : Int) (σ' : Sg) (H' : Heap) (locs' : List Loc) (pc' : Nat) (ls' : Array Slot), Q r σ' → World X σ' s H' → va_S A s.heap H' locs' → retOK M pc' r → W p (cxL X) e M.2.2.2.2 s m args below meth c H' locs' cells slots Z (F0 m pc' ls' (retv X M.2.2.2.1 r).toList)) →
    ∀ (H : Heap) (locs : List Loc) (ls : Array Slot), World X σ s H → va_S A s.heap H locs → lv_has ls M.2.2.1 L → W p (cxL X) e M.2.2.2.2 s m args below meth c H locs cells slots Z (F0 m pc ls st)
theorem VV.mono {X : Cx} {M : MI} {pc : Nat} {L : List (Nat × Value)} {st : List Value} {σ : Sg} {Q Q' : Int → Sg → Prop} (h : VV X M pc L st σ Q) (hq : ∀ r σ', Q r σ' → Q' r σ') : VV X M pc L st σ Q' := by
  intro p e s m args below meth c A cells slots Z C hz
  exact h p e s m args below meth c A cells slots Z C (fun r σ' H' locs' pc' ls' q => hz r σ' H' locs' pc' ls' (hq r σ' q))
theorem V_rng {X : Cx} {M : MI} {pc : Nat} {L : List (Nat × Value)} {st : List Value} {σ : Sg} {Q : Int → Sg → Prop} (h : Rng σ → VV X M pc L st σ Q) : VV X M pc L st σ Q := by
  intro p e s m args below meth c A cells slots Z C hz H locs ls Wd S hl
  exact h Wd.2.2.2 p e s m args below meth c A cells slots Z C hz H locs ls Wd S hl
theorem V_sub {X : Cx} {M : MI} {pc : Nat} {L L' : List (Nat × Value)} {st : List Value} {σ : Sg} {Q : Int → Sg → Prop} (ks : List Nat) (hs : lv_pick L ks = L') (h : VV X M pc L' st σ Q) : VV X M pc L st σ Q := by
  intro p e s m args below meth c A cells slots Z C hz H locs ls Wd S hl
  exact h p e s m args below meth c A cells slots Z C hz H locs ls Wd S (lv_sub hl ks hs)
theorem V_iconst {X : Cx} {M : MI} {pc : Nat} {L : List (Nat × Value)} {st : List Value} {σ : Sg} {Q : Int → Sg → Prop} {n : Int} (hd : decode M.2.1 pc = .ok (.iconst n, 1)) (k : VV X M (pc + 1) L (.int (gI n) :: st) σ Q) : VV X M pc L (st) σ Q := by
  intro p e s m args below meth c A cells slots Z C hz H locs ls Wd S hl
  refine lv_iconst C.1 C.2.1 hd rfl ?_
  exact k p e s m args below meth c A cells slots Z C hz H locs ls Wd S hl
theorem V_bipush {X : Cx} {M : MI} {pc : Nat} {L : List (Nat × Value)} {st : List Value} {σ : Sg} {Q : Int → Sg → Prop} {n v : Int} (hv : (Int8.ofInt n).toInt32 = gI v) (hd : decode M.2.1 pc = .ok (.bipush n, 2)) (k : VV X M (pc + 2) L (.int (gI v) :: st) σ Q) : VV X M pc L (st) σ Q := by
  intro p e s m args below meth c A cells slots Z C hz H locs ls Wd S hl
  refine lv_bipush C.1 C.2.1 hd hv ?_
  exact k p e s m args below meth c A cells slots Z C hz H locs ls Wd S hl
theorem V_sipush {X : Cx} {M : MI} {pc : Nat} {L : List (Nat × Value)} {st : List Value} {σ : Sg} {Q : Int → Sg → Prop} {n v : Int} (hv : (Int16.ofInt n).toInt32 = gI v) (hd : decode M.2.1 pc = .ok (.sipush n, 3)) (k : VV X M (pc + 3) L (.int (gI v) :: st) σ Q) : VV X M pc L (st) σ Q := by
  intro p e s m args below meth c A cells slots Z C hz H locs ls Wd S hl
  refine lv_sipush C.1 C.2.1 hd hv ?_
  exact k p e s m args below meth c A cells slots Z C hz H locs ls Wd S hl
theorem V_lconst {X : Cx} {M : MI} {pc : Nat} {L : List (Nat × Value)} {st : List Value} {σ : Sg} {Q : Int → Sg → Prop} {n : Fin 2} {v : Int} (hv : Int64.ofNat (n : Nat) = gJ v) (hd : decode M.2.1 pc = .ok (.lconst n, 1)) (k : VV X M (pc + 1) L (.long (gJ v) :: st) σ Q) : VV X M pc L (st) σ Q := by
  intro p e s m args below meth c A cells slots Z C hz H locs ls Wd S hl
  refine lv_lconst C.1 C.2.1 hd hv ?_
  exact k p e s m args below meth c A cells slots Z C hz H locs ls Wd S hl
theorem V_iload_n {X : Cx} {M : MI} {pc : Nat} {L : List (Nat × Value)} {st : List Value} {σ : Sg} {Q : Int → Sg → Prop} {q : Fin 4} {i : Nat} {x : Int} (j : Nat) (hi : (q : Nat) = i) (hj : L[j]? = some (i, .int (gI x))) (hd : decode M.2.1 pc = .ok (.iload_n q, 1)) (k : VV X M (pc + 1) L (.int (gI x) :: st) σ Q) : VV X M pc L (st) σ Q := by
  intro p e s m args below meth c A cells slots Z C hz H locs ls Wd S hl
  refine lv_iload_n C.1 C.2.1 hd hi (lv_at hl j hj) ?_
  exact k p e s m args below meth c A cells slots Z C hz H locs ls Wd S hl
theorem V_iload {X : Cx} {M : MI} {pc : Nat} {L : List (Nat × Value)} {st : List Value} {σ : Sg} {Q : Int → Sg → Prop} {i : Nat} {x : Int} (j : Nat) (hj : L[j]? = some (i, .int (gI x))) (hd : decode M.2.1 pc = .ok (.iload i, 2)) (k : VV X M (pc + 2) L (.int (gI x) :: st) σ Q) : VV X M pc L (st) σ Q := by
  intro p e s m args below meth c A cells slots Z C hz H locs ls Wd S hl
  refine lv_iload C.1 C.2.1 hd (lv_at hl j hj) ?_
  exact k p e s m args below meth c A cells slots Z C hz H locs ls Wd S hl
theorem V_lload_n {X : Cx} {M : MI} {pc : Nat} {L : List (Nat × Value)} {st : List Value} {σ : Sg} {Q : Int → Sg → Prop} {q : Fin 4} {i : Nat} {x : Int} (j : Nat) (hi : (q : Nat) = i) (hj : L[j]? = some (i, .long (gJ x))) (hd : decode M.2.1 pc = .ok (.lload_n q, 1)) (k : VV X M (pc + 1) L (.long (gJ x) :: st) σ Q) : VV X M pc L (st) σ Q := by
  intro p e s m args below meth c A cells slots Z C hz H locs ls Wd S hl
  refine lv_lload_n C.1 C.2.1 hd hi (lv_at hl j hj) ?_
  exact k p e s m args below meth c A cells slots Z C hz H locs ls Wd S hl
theorem V_lload {X : Cx} {M : MI} {pc : Nat} {L : List (Nat × Value)} {st : List Value} {σ : Sg} {Q : Int → Sg → Prop} {i : Nat} {x : Int} (j : Nat) (hj : L[j]? = some (i, .long (gJ x))) (hd : decode M.2.1 pc = .ok (.lload i, 2)) (k : VV X M (pc + 2) L (.long (gJ x) :: st) σ Q) : VV X M pc L (st) σ Q := by
  intro p e s m args below meth c A cells slots Z C hz H locs ls Wd S hl
  refine lv_lload C.1 C.2.1 hd (lv_at hl j hj) ?_
  exact k p e s m args below meth c A cells slots Z C hz H locs ls Wd S hl
theorem V_aload_n {X : Cx} {M : MI} {pc : Nat} {L : List (Nat × Value)} {st : List Value} {σ : Sg} {Q : Int → Sg → Prop} {q : Fin 4} {i : Nat} {x : Nat} (j : Nat) (hi : (q : Nat) = i) (hj : L[j]? = some (i, .ref x)) (hd : decode M.2.1 pc = .ok (.aload_n q, 1)) (k : VV X M (pc + 1) L (.ref x :: st) σ Q) : VV X M pc L (st) σ Q := by
  intro p e s m args below meth c A cells slots Z C hz H locs ls Wd S hl
  refine lv_aload_n C.1 C.2.1 hd hi (lv_at hl j hj) ?_
  exact k p e s m args below meth c A cells slots Z C hz H locs ls Wd S hl
theorem V_aload {X : Cx} {M : MI} {pc : Nat} {L : List (Nat × Value)} {st : List Value} {σ : Sg} {Q : Int → Sg → Prop} {i : Nat} {x : Nat} (j : Nat) (hj : L[j]? = some (i, .ref x)) (hd : decode M.2.1 pc = .ok (.aload i, 2)) (k : VV X M (pc + 2) L (.ref x :: st) σ Q) : VV X M pc L (st) σ Q := by
  intro p e s m args below meth c A cells slots Z C hz H locs ls Wd S hl
  refine lv_aload C.1 C.2.1 hd (lv_at hl j hj) ?_
  exact k p e s m args below meth c A cells slots Z C hz H locs ls Wd S hl
theorem V_iadd {X : Cx} {M : MI} {pc : Nat} {L : List (Nat × Value)} {st : List Value} {σ : Sg} {Q : Int → Sg → Prop} {x y : Int} (hd : decode M.2.1 pc = .ok (.iadd, 1)) (k : VV X M (pc + 1) L (.int (gI (x + y)) :: st) σ Q) : VV X M pc L (.int (gI y) :: .int (gI x) :: st) σ Q := by
  intro p e s m args below meth c A cells slots Z C hz H locs ls Wd S hl
  refine lv_iadd C.1 C.2.1 hd ?_
  rw [← gI_add]
  exact k p e s m args below meth c A cells slots Z C hz H locs ls Wd S hl
theorem V_isub {X : Cx} {M : MI} {pc : Nat} {L : List (Nat × Value)} {st : List Value} {σ : Sg} {Q : Int → Sg → Prop} {x y : Int} (hd : decode M.2.1 pc = .ok (.isub, 1)) (k : VV X M (pc + 1) L (.int (gI (x - y)) :: st) σ Q) : VV X M pc L (.int (gI y) :: .int (gI x) :: st) σ Q := by
  intro p e s m args below meth c A cells slots Z C hz H locs ls Wd S hl
  refine lv_isub C.1 C.2.1 hd ?_
  rw [← gI_sub]
  exact k p e s m args below meth c A cells slots Z C hz H locs ls Wd S hl
theorem V_imul {X : Cx} {M : MI} {pc : Nat} {L : List (Nat × Value)} {st : List Value} {σ : Sg} {Q : Int → Sg → Prop} {x y : Int} (hd : decode M.2.1 pc = .ok (.imul, 1)) (k : VV X M (pc + 1) L (.int (gI (x * y)) :: st) σ Q) : VV X M pc L (.int (gI y) :: .int (gI x) :: st) σ Q := by
  intro p e s m args below meth c A cells slots Z C hz H locs ls Wd S hl
  refine lv_imul C.1 C.2.1 hd ?_
  rw [← gI_mul]
  exact k p e s m args below meth c A cells slots Z C hz H locs ls Wd S hl
theorem V_iand {X : Cx} {M : MI} {pc : Nat} {L : List (Nat × Value)} {st : List Value} {σ : Sg} {Q : Int → Sg → Prop} {x y : Int} (hd : decode M.2.1 pc = .ok (.iand, 1)) (k : VV X M (pc + 1) L (.int (gI (zand x y)) :: st) σ Q) : VV X M pc L (.int (gI y) :: .int (gI x) :: st) σ Q := by
  intro p e s m args below meth c A cells slots Z C hz H locs ls Wd S hl
  refine lv_iand C.1 C.2.1 hd ?_
  rw [show gI x &&& gI y = gI (zand x y) from (gI_of _).symm]
  exact k p e s m args below meth c A cells slots Z C hz H locs ls Wd S hl
theorem V_ior {X : Cx} {M : MI} {pc : Nat} {L : List (Nat × Value)} {st : List Value} {σ : Sg} {Q : Int → Sg → Prop} {x y : Int} (hd : decode M.2.1 pc = .ok (.ior, 1)) (k : VV X M (pc + 1) L (.int (gI (zor x y)) :: st) σ Q) : VV X M pc L (.int (gI y) :: .int (gI x) :: st) σ Q := by
  intro p e s m args below meth c A cells slots Z C hz H locs ls Wd S hl
  refine lv_ior C.1 C.2.1 hd ?_
  rw [show gI x ||| gI y = gI (zor x y) from (gI_of _).symm]
  exact k p e s m args below meth c A cells slots Z C hz H locs ls Wd S hl
theorem V_ixor {X : Cx} {M : MI} {pc : Nat} {L : List (Nat × Value)} {st : List Value} {σ : Sg} {Q : Int → Sg → Prop} {x y : Int} (hd : decode M.2.1 pc = .ok (.ixor, 1)) (k : VV X M (pc + 1) L (.int (gI (zxor x y)) :: st) σ Q) : VV X M pc L (.int (gI y) :: .int (gI x) :: st) σ Q := by
  intro p e s m args below meth c A cells slots Z C hz H locs ls Wd S hl
  refine lv_ixor C.1 C.2.1 hd ?_
  rw [show gI x ^^^ gI y = gI (zxor x y) from (gI_of _).symm]
  exact k p e s m args below meth c A cells slots Z C hz H locs ls Wd S hl
theorem V_ishl {X : Cx} {M : MI} {pc : Nat} {L : List (Nat × Value)} {st : List Value} {σ : Sg} {Q : Int → Sg → Prop} {x y : Int} (hd : decode M.2.1 pc = .ok (.ishl, 1)) (k : VV X M (pc + 1) L (.int (gI (zshl x y)) :: st) σ Q) : VV X M pc L (.int (gI y) :: .int (gI x) :: st) σ Q := by
  intro p e s m args below meth c A cells slots Z C hz H locs ls Wd S hl
  refine lv_ishl C.1 C.2.1 hd ?_
  rw [show gI x <<< (gI y &&& 31) = gI (zshl x y) from (gI_of _).symm]
  exact k p e s m args below meth c A cells slots Z C hz H locs ls Wd S hl
theorem V_ishr {X : Cx} {M : MI} {pc : Nat} {L : List (Nat × Value)} {st : List Value} {σ : Sg} {Q : Int → Sg → Prop} {x y : Int} (hd : decode M.2.1 pc = .ok (.ishr, 1)) (k : VV X M (pc + 1) L (.int (gI (zshr x y)) :: st) σ Q) : VV X M pc L (.int (gI y) :: .int (gI x) :: st) σ Q := by
  intro p e s m args below meth c A cells slots Z C hz H locs ls Wd S hl
  refine lv_ishr C.1 C.2.1 hd ?_
  rw [show gI x >>> (gI y &&& 31) = gI (zshr x y) from (gI_of _).symm]
  exact k p e s m args below meth c A cells slots Z C hz H locs ls Wd S hl
theorem V_iushr {X : Cx} {M : MI} {pc : Nat} {L : List (Nat × Value)} {st : List Value} {σ : Sg} {Q : Int → Sg → Prop} {x y : Int} (hd : decode M.2.1 pc = .ok (.iushr, 1)) (k : VV X M (pc + 1) L (.int (gI (zushr x y)) :: st) σ Q) : VV X M pc L (.int (gI y) :: .int (gI x) :: st) σ Q := by
  intro p e s m args below meth c A cells slots Z C hz H locs ls Wd S hl
  refine lv_iushr C.1 C.2.1 hd (gI_of _).symm ?_
  exact k p e s m args below meth c A cells slots Z C hz H locs ls Wd S hl
theorem V_idiv {X : Cx} {M : MI} {pc : Nat} {L : List (Nat × Value)} {st : List Value} {σ : Sg} {Q : Int → Sg → Prop} {x y : Int} (h0 : inI y ∧ y ≠ 0) (hd : decode M.2.1 pc = .ok (.idiv, 1)) (k : VV X M (pc + 1) L (.int (gI (zdiv x y)) :: st) σ Q) : VV X M pc L (.int (gI y) :: .int (gI x) :: st) σ Q := by
  intro p e s m args below meth c A cells slots Z C hz H locs ls Wd S hl
  refine lv_idiv C.1 C.2.1 hd (fun q => h0.2 ((gI_eq h0.1 inI_0).mp (q.trans gI_0.symm))) ?_
  rw [show gI x / gI y = gI (zdiv x y) from (gI_of _).symm]
  exact k p e s m args below meth c A cells slots Z C hz H locs ls Wd S hl
theorem V_irem {X : Cx} {M : MI} {pc : Nat} {L : List (Nat × Value)} {st : List Value} {σ : Sg} {Q : Int → Sg → Prop} {x y : Int} (h0 : inI y ∧ y ≠ 0) (hd : decode M.2.1 pc = .ok (.irem, 1)) (k : VV X M (pc + 1) L (.int (gI (zrem x y)) :: st) σ Q) : VV X M pc L (.int (gI y) :: .int (gI x) :: st) σ Q := by
  intro p e s m args below meth c A cells slots Z C hz H locs ls Wd S hl
  refine lv_irem C.1 C.2.1 hd (fun q => h0.2 ((gI_eq h0.1 inI_0).mp (q.trans gI_0.symm))) ?_
  rw [show gI x - gI x / gI y * gI y = gI (zrem x y) from (gI_of _).symm]
  exact k p e s m args below meth c A cells slots Z C hz H locs ls Wd S hl
theorem V_ladd {X : Cx} {M : MI} {pc : Nat} {L : List (Nat × Value)} {st : List Value} {σ : Sg} {Q : Int → Sg → Prop} {x y : Int} (hd : decode M.2.1 pc = .ok (.ladd, 1)) (k : VV X M (pc + 1) L (.long (gJ (x + y)) :: st) σ Q) : VV X M pc L (.long (gJ y) :: .long (gJ x) :: st) σ Q := by
  intro p e s m args below meth c A cells slots Z C hz H locs ls Wd S hl
  refine lv_ladd C.1 C.2.1 hd ?_
  rw [← gJ_add]
  exact k p e s m args below meth c A cells slots Z C hz H locs ls Wd S hl
theorem V_lsub {X : Cx} {M : MI} {pc : Nat} {L : List (Nat × Value)} {st : List Value} {σ : Sg} {Q : Int → Sg → Prop} {x y : Int} (hd : decode M.2.1 pc = .ok (.lsub, 1)) (k : VV X M (pc + 1) L (.long (gJ (x - y)) :: st) σ Q) : VV X M pc L (.long (gJ y) :: .long (gJ x) :: st) σ Q := by
  intro p e s m args below meth c A cells slots Z C hz H locs ls Wd S hl
  refine lv_lsub C.1 C.2.1 hd ?_
  rw [← gJ_sub]
  exact k p e s m args below meth c A cells slots Z C hz H locs ls Wd S hl
theorem V_lmul {X : Cx} {M : MI} {pc : Nat} {L : List (Nat × Value)} {st : List Value} {σ : Sg} {Q : Int → Sg → Prop} {x y : Int} (hd : decode M.2.1 pc = .ok (.lmul, 1)) (k : VV X M (pc + 1) L (.long (gJ (x * y)) :: st) σ Q) : VV X M pc L (.long (gJ y) :: .long (gJ x) :: st) σ Q := by
  intro p e s m args below meth c A cells slots Z C hz H locs ls Wd S hl
  refine lv_lmul C.1 C.2.1 hd ?_
  rw [← gJ_mul]
  exact k p e s m args below meth c A cells slots Z C hz H locs ls Wd S hl
theorem V_land {X : Cx} {M : MI} {pc : Nat} {L : List (Nat × Value)} {st : List Value} {σ : Sg} {Q : Int → Sg → Prop} {x y : Int} (hd : decode M.2.1 pc = .ok (.land, 1)) (k : VV X M (pc + 1) L (.long (gJ (jand x y)) :: st) σ Q) : VV X M pc L (.long (gJ y) :: .long (gJ x) :: st) σ Q := by
  intro p e s m args below meth c A cells slots Z C hz H locs ls Wd S hl
  refine lv_land C.1 C.2.1 hd ?_
  rw [show gJ x &&& gJ y = gJ (jand x y) from (gJ_of _).symm]
  exact k p e s m args below meth c A cells slots Z C hz H locs ls Wd S hl
theorem V_lor {X : Cx} {M : MI} {pc : Nat} {L : List (Nat × Value)} {st : List Value} {σ : Sg} {Q : Int → Sg → Prop} {x y : Int} (hd : decode M.2.1 pc = .ok (.lor, 1)) (k : VV X M (pc + 1) L (.long (gJ (jor x y)) :: st) σ Q) : VV X M pc L (.long (gJ y) :: .long (gJ x) :: st) σ Q := by
  intro p e s m args below meth c A cells slots Z C hz H locs ls Wd S hl
  refine lv_lor C.1 C.2.1 hd ?_
  rw [show gJ x ||| gJ y = gJ (jor x y) from (gJ_of _).symm]
  exact k p e s m args below meth c A cells slots Z C hz H locs ls Wd S hl
theorem V_lshl {X : Cx} {M : MI} {pc : Nat} {L : List (Nat × Value)} {st : List Value} {σ : Sg} {Q : Int → Sg → Prop} {x y : Int} (hd : decode M.2.1 pc = .ok (.lshl, 1)) (k : VV X M (pc + 1) L (.long (gJ (jshl x y)) :: st) σ Q) : VV X M pc L (.int (gI y) :: .long (gJ x) :: st) σ Q := by
  intro p e s m args below meth c A cells slots Z C hz H locs ls Wd S hl
  refine lv_lshl C.1 C.2.1 hd (gJ_of _).symm ?_
  exact k p e s m args below meth c A cells slots Z C hz H locs ls Wd S hl
theorem V_lshr {X : Cx} {M : MI} {pc : Nat} {L : List (Nat × Value)} {st : List Value} {σ : Sg} {Q : Int → Sg → Prop} {x y : Int} (hd : decode M.2.1 pc = .ok (.lshr, 1)) (k : VV X M (pc + 1) L (.long (gJ (jshr x y)) :: st) σ Q) : VV X M pc L (.int (gI y) :: .long (gJ x) :: st) σ Q := by
  intro p e s m args below meth c A cells slots Z C hz H locs ls Wd S hl
  refine lv_lshr C.1 C.2.1 hd (gJ_of _).symm ?_
  exact k p e s m args below meth c A cells slots Z C hz H locs ls Wd S hl
theorem V_l2i {X : Cx} {M : MI} {pc : Nat} {L : List (Nat × Value)} {st : List Value} {σ : Sg} {Q : Int → Sg → Prop} {x : Int} (hd : decode M.2.1 pc = .ok (.l2i, 1)) (k : VV X M (pc + 1) L (.int (gI (jtoi x)) :: st) σ Q) : VV X M pc L (.long (gJ x) :: st) σ Q := by
  intro p e s m args below meth c A cells slots Z C hz H locs ls Wd S hl
  refine lv_l2i C.1 C.2.1 hd (gI_of _).symm ?_
  exact k p e s m args below meth c A cells slots Z C hz H locs ls Wd S hl
theorem gI_long {x : Int} (h : inI x) : (gI x).toInt64 = gJ x := by
  have : (gI x).toInt64.toInt = x := by rw [Int32.toInt_toInt64, gI_to h]
  rw [← gJ_of (gI x).toInt64, this]
theorem V_i2l {X : Cx} {M : MI} {pc : Nat} {L : List (Nat × Value)} {st : List Value} {σ : Sg} {Q : Int → Sg → Prop} {x : Int} (h0 : inI x) (hd : decode M.2.1 pc = .ok (.i2l, 1)) (k : VV X M (pc + 1) L (.long (gJ x) :: st) σ Q) : VV X M pc L (.int (gI x) :: st) σ Q := by
  intro p e s m args below meth c A cells slots Z C hz H locs ls Wd S hl
  refine lv_i2l C.1 C.2.1 hd (gI_long h0) ?_
  exact k p e s m args below meth c A cells slots Z C hz H locs ls Wd S hl
theorem gI_char : ∀ n : Nat, n < 256 → ((gI n).toUInt32 % 65536).toInt32 = gI n := by decide +kernel
theorem gI_char' {x : Int} (h0 : 0 ≤ x) (h1 : x < 256) : ((gI x).toUInt32 % 65536).toInt32 = gI x := by
  have := gI_char x.toNat (by omega)
  rwa [Int.toNat_of_nonneg h0] at this
theorem V_i2c {X : Cx} {M : MI} {pc : Nat} {L : List (Nat × Value)} {st : List Value} {σ : Sg} {Q : Int → Sg → Prop} {x : Int} (h0 : 0 ≤ x ∧ x < 256) (hd : decode M.2.1 pc = .ok (.i2c, 1)) (k : VV X M (pc + 1) L (.int (gI x) :: st) σ Q) : VV X M pc L (.int (gI x) :: st) σ Q := by
  intro p e s m args below meth c A cells slots Z C hz H locs ls Wd S hl
  refine lv_i2c C.1 C.2.1 hd (gI_char' h0.1 h0.2) ?_
  exact k p e s m args below meth c A cells slots Z C hz H locs ls Wd S hl
theorem gJ_cmp {x y : Int} (hx : inJ x) (hy : inJ y) : lg_cmp (gJ x) (gJ y) = gI (jcmp x y) := by
  unfold jcmp
  rcases Int.lt_trichotomy x y with h | h | h
  · rw [if_pos h]
    have h1 : ¬ gJ y < gJ x := by rw [Int64.lt_iff_toInt_lt, gJ_to hx, gJ_to hy]; omega
    have h2 : ¬ gJ x = gJ y := fun q => by have := (gJ_eq hx hy).mp q; omega
    simp [lg_cmp, h1, h2, gI]
  · subst h
    simp [lg_cmp, gI]
  · have h1 : gJ y < gJ x := by rw [Int64.lt_iff_toInt_lt, gJ_to hx, gJ_to hy]; exact h
    rw [if_neg (by omega), if_neg (by omega)]
    simp [lg_cmp, h1, gI]
theorem V_lcmp {X : Cx} {M : MI} {pc : Nat} {L : List (Nat × Value)} {st : List Value} {σ : Sg} {Q : Int → Sg → Prop} {x y : Int} (hx : inJ x) (hy : inJ y) (hd : decode M.2.1 pc = .ok (.lcmp, 1)) (k : VV X M (pc + 1) L (.int (gI (jcmp x y)) :: st) σ Q) : VV X M pc L (.long (gJ y) :: .long (gJ x) :: st) σ Q := by
  intro p e s m args below meth c A cells slots Z C hz H locs ls Wd S hl
  refine W.lcmp C.1 C.2.1 hd ?_
  rw [gJ_cmp hx hy]
  exact k p e s m args below meth c A cells slots Z C hz H locs ls Wd S hl
theorem V_dup {X : Cx} {M : MI} {pc : Nat} {L : List (Nat × Value)} {st : List Value} {σ : Sg} {Q : Int → Sg → Prop} {v : Value} (hv : v.category = 1) (hd : decode M.2.1 pc = .ok (.dup, 1)) (k : VV X M (pc + 1) L (v :: v :: st) σ Q) : VV X M pc L (v :: st) σ Q := by
  intro p e s m args below meth c A cells slots Z C hz H locs ls Wd S hl
  refine lv_dup C.1 C.2.1 hd hv ?_
  exact k p e s m args below meth c A cells slots Z C hz H locs ls Wd S hl
theorem V_pop {X : Cx} {M : MI} {pc : Nat} {L : List (Nat × Value)} {st : List Value} {σ : Sg} {Q : Int → Sg → Prop} {v : Value} (hv : v.category = 1) (hd : decode M.2.1 pc = .ok (.pop, 1)) (k : VV X M (pc + 1) L (st) σ Q) : VV X M pc L (v :: st) σ Q := by
  intro p e s m args below meth c A cells slots Z C hz H locs ls Wd S hl
  refine lv_pop C.1 C.2.1 hd hv ?_
  exact k p e s m args below meth c A cells slots Z C hz H locs ls Wd S hl
theorem V_dup_x1 {X : Cx} {M : MI} {pc : Nat} {L : List (Nat × Value)} {st : List Value} {σ : Sg} {Q : Int → Sg → Prop} {v u : Value} (hv : v.category = 1) (hu : u.category = 1) (hd : decode M.2.1 pc = .ok (.dup_x1, 1)) (k : VV X M (pc + 1) L (v :: u :: v :: st) σ Q) : VV X M pc L (v :: u :: st) σ Q := by
  intro p e s m args below meth c A cells slots Z C hz H locs ls Wd S hl
  refine lv_dup_x1 C.1 C.2.1 hd hv hu ?_
  exact k p e s m args below meth c A cells slots Z C hz H locs ls Wd S hl
theorem V_dup_x2 {X : Cx} {M : MI} {pc : Nat} {L : List (Nat × Value)} {st : List Value} {σ : Sg} {Q : Int → Sg → Prop} {v u t : Value} (hv : v.category = 1) (hu : u.category = 1) (ht : t.category = 1) (hd : decode M.2.1 pc = .ok (.dup_x2, 1)) (k : VV X M (pc + 1) L (v :: u :: t :: v :: st) σ Q) : VV X M pc L (v :: u :: t :: st) σ Q := by
  intro p e s m args below meth c A cells slots Z C hz H locs ls Wd S hl
  refine lv_dup_x2 C.1 C.2.1 hd hv hu ht ?_
  exact k p e s m args below meth c A cells slots Z C hz H locs ls Wd S hl
theorem V_dup2 {X : Cx} {M : MI} {pc : Nat} {L : List (Nat × Value)} {st : List Value} {σ : Sg} {Q : Int → Sg → Prop} {v u : Value} (hv : v.category = 1) (hu : u.category = 1) (hd : decode M.2.1 pc = .ok (.dup2, 1)) (k : VV X M (pc + 1) L (v :: u :: v :: u :: st) σ Q) : VV X M pc L (v :: u :: st) σ Q := by
  intro p e s m args below meth c A cells slots Z C hz H locs ls Wd S hl
  refine lv_dup2_11 C.1 C.2.1 hd hv hu ?_
  exact k p e s m args below meth c A cells slots Z C hz H locs ls Wd S hl
theorem gI_eq0 {x : Int} (hx : inI x) : gI x = 0 ↔ x = 0 := by have := gI_eq hx inI_0; rwa [gI_0] at this
theorem gI_lt0 {x : Int} (hx : inI x) : gI x < 0 ↔ x < 0 := by have := gI_lt hx inI_0; rwa [gI_0] at this
theorem gI_gt0 {x : Int} (hx : inI x) : 0 < gI x ↔ 0 < x := by have := gI_lt inI_0 hx; rwa [gI_0] at this
theorem gI_ge0 {x : Int} (hx : inI x) : 0 ≤ gI x ↔ 0 ≤ x := by have := gI_le inI_0 hx; rwa [gI_0] at this
theorem gI_le0 {x : Int} (hx : inI x) : gI x ≤ 0 ↔ x ≤ 0 := by have := gI_le hx inI_0; rwa [gI_0] at this
theorem V_if_eq {X : Cx} {M : MI} {pc : Nat} {L : List (Nat × Value)} {st : List Value} {σ : Sg} {Q : Int → Sg → Prop} {x : Int} {off : Int} {tgt : Nat} (hd : decode M.2.1 pc = .ok (.ifCond .eq off, 3)) (ht : (pc : Int) + off = (tgt : Int)) (hx : inI x) (kt : x = 0 → VV X M tgt L st σ Q) (kf : ¬ x = 0 → VV X M (pc + 3) L st σ Q) : VV X M pc L (.int (gI x) :: st) σ Q := by
  intro p e s m args below meth c A cells slots Z C hz H locs ls Wd S hl
  exact lv_if_eq C.1 C.2.1 hd ht (fun q => kt ((gI_eq0 hx).mp q) p e s m args below meth c A cells slots Z C hz H locs ls Wd S hl) (fun q => kf (fun z => q ((gI_eq0 hx).mpr z)) p e s m args below meth c A cells slots Z C hz H locs ls Wd S hl)
theorem V_if_ne {X : Cx} {M : MI} {pc : Nat} {L : List (Nat × Value)} {st : List Value} {σ : Sg} {Q : Int → Sg → Prop} {x : Int} {off : Int} {tgt : Nat} (hd : decode M.2.1 pc = .ok (.ifCond .ne off, 3)) (ht : (pc : Int) + off = (tgt : Int)) (hx : inI x) (kt : ¬ x = 0 → VV X M tgt L st σ Q) (kf : x = 0 → VV X M (pc + 3) L st σ Q) : VV X M pc L (.int (gI x) :: st) σ Q := by
  intro p e s m args below meth c A cells slots Z C hz H locs ls Wd S hl
  exact lv_if_ne C.1 C.2.1 hd ht (fun q => kt (fun z => q ((gI_eq0 hx).mpr z)) p e s m args below meth c A cells slots Z C hz H locs ls Wd S hl) (fun q => kf ((gI_eq0 hx).mp q) p e s m args below meth c A cells slots Z C hz H locs ls Wd S hl)
theorem V_if_lt {X : Cx} {M : MI} {pc : Nat} {L : List (Nat × Value)} {st : List Value} {σ : Sg} {Q : Int → Sg → Prop} {x : Int} {off : Int} {tgt : Nat} (hd : decode M.2.1 pc = .ok (.ifCond .lt off, 3)) (ht : (pc : Int) + off = (tgt : Int)) (hx : inI x) (kt : x < 0 → VV X M tgt L st σ Q) (kf : 0 ≤ x → VV X M (pc + 3) L st σ Q) : VV X M pc L (.int (gI x) :: st) σ Q := by
  intro p e s m args below meth c A cells slots Z C hz H locs ls Wd S hl
  exact lv_if_lt C.1 C.2.1 hd ht (fun q => kt ((gI_lt0 hx).mp q) p e s m args below meth c A cells slots Z C hz H locs ls Wd S hl) (fun q => kf ((by have z := mt (gI_lt0 hx).mpr q; omega)) p e s m args below meth c A cells slots Z C hz H locs ls Wd S hl)
theorem V_if_ge {X : Cx} {M : MI} {pc : Nat} {L : List (Nat × Value)} {st : List Value} {σ : Sg} {Q : Int → Sg → Prop} {x : Int} {off : Int} {tgt : Nat} (hd : decode M.2.1 pc = .ok (.ifCond .ge off, 3)) (ht : (pc : Int) + off = (tgt : Int)) (hx : inI x) (kt : 0 ≤ x → VV X M tgt L st σ Q) (kf : x < 0 → VV X M (pc + 3) L st σ Q) : VV X M pc L (.int (gI x) :: st) σ Q := by
  intro p e s m args below meth c A cells slots Z C hz H locs ls Wd S hl
  exact lv_if_ge C.1 C.2.1 hd ht (fun q => kt ((gI_ge0 hx).mp q) p e s m args below meth c A cells slots Z C hz H locs ls Wd S hl) (fun q => kf ((by have z := mt (gI_ge0 hx).mpr q; omega)) p e s m args below meth c A cells slots Z C hz H locs ls Wd S hl)
theorem V_if_gt {X : Cx} {M : MI} {pc : Nat} {L : List (Nat × Value)} {st : List Value} {σ : Sg} {Q : Int → Sg → Prop} {x : Int} {off : Int} {tgt : Nat} (hd : decode M.2.1 pc = .ok (.ifCond .gt off, 3)) (ht : (pc : Int) + off = (tgt : Int)) (hx : inI x) (kt : 0 < x → VV X M tgt L st σ Q) (kf : x ≤ 0 → VV X M (pc + 3) L st σ Q) : VV X M pc L (.int (gI x) :: st) σ Q := by
  intro p e s m args below meth c A cells slots Z C hz H locs ls Wd S hl
  exact lv_if_gt C.1 C.2.1 hd ht (fun q => kt ((gI_gt0 hx).mp q) p e s m args below meth c A cells slots Z C hz H locs ls Wd S hl) (fun q => kf ((by have z := mt (gI_gt0 hx).mpr q; omega)) p e s m args below meth c A cells slots Z C hz H locs ls Wd S hl)
theorem V_if_le {X : Cx} {M : MI} {pc : Nat} {L : List (Nat × Value)} {st : List Value} {σ : Sg} {Q : Int → Sg → Prop} {x : Int} {off : Int} {tgt : Nat} (hd : decode M.2.1 pc = .ok (.ifCond .le off, 3)) (ht : (pc : Int) + off = (tgt : Int)) (hx : inI x) (kt : x ≤ 0 → VV X M tgt L st σ Q) (kf : 0 < x → VV X M (pc + 3) L st σ Q) : VV X M pc L (.int (gI x) :: st) σ Q := by
  intro p e s m args below meth c A cells slots Z C hz H locs ls Wd S hl
  exact lv_if_le C.1 C.2.1 hd ht (fun q => kt ((gI_le0 hx).mp q) p e s m args below meth c A cells slots Z C hz H locs ls Wd S hl) (fun q => kf ((by have z := mt (gI_le0 hx).mpr q; omega)) p e s m args below meth c A cells slots Z C hz H locs ls Wd S hl)
theorem V_icmp_eq {X : Cx} {M : MI} {pc : Nat} {L : List (Nat × Value)} {st : List Value} {σ : Sg} {Q : Int → Sg → Prop} {x y : Int} {off : Int} {tgt : Nat} (hd : decode M.2.1 pc = .ok (.if_icmp .eq off, 3)) (ht : (pc : Int) + off = (tgt : Int)) (hx : inI x) (hy : inI y) (kt : x = y → VV X M tgt L st σ Q) (kf : ¬ x = y → VV X M (pc + 3) L st σ Q) : VV X M pc L (.int (gI y) :: .int (gI x) :: st) σ Q := by
  intro p e s m args below meth c A cells slots Z C hz H locs ls Wd S hl
  exact lv_icmp_eq C.1 C.2.1 hd ht (fun q => kt ((gI_eq hx hy).mp q) p e s m args below meth c A cells slots Z C hz H locs ls Wd S hl) (fun q => kf (fun z => q ((gI_eq hx hy).mpr z)) p e s m args below meth c A cells slots Z C hz H locs ls Wd S hl)
theorem V_icmp_ne {X : Cx} {M : MI} {pc : Nat} {L : List (Nat × Value)} {st : List Value} {σ : Sg} {Q : Int → Sg → Prop} {x y : Int} {off : Int} {tgt : Nat} (hd : decode M.2.1 pc = .ok (.if_icmp .ne off, 3)) (ht : (pc : Int) + off = (tgt : Int)) (hx : inI x) (hy : inI y) (kt : ¬ x = y → VV X M tgt L st σ Q) (kf : x = y → VV X M (pc + 3) L st σ Q) : VV X M pc L (.int (gI y) :: .int (gI x) :: st) σ Q := by
  intro p e s m args below meth c A cells slots Z C hz H locs ls Wd S hl
  exact lv_icmp_ne C.1 C.2.1 hd ht (fun q => kt (fun z => q ((gI_eq hx hy).mpr z)) p e s m args below meth c A cells slots Z C hz H locs ls Wd S hl) (fun q => kf ((gI_eq hx hy).mp q) p e s m args below meth c A cells slots Z C hz H locs ls Wd S hl)
theorem V_icmp_lt {X : Cx} {M : MI} {pc : Nat} {L : List (Nat × Value)} {st : List Value} {σ : Sg} {Q : Int → Sg → Prop} {x y : Int} {off : Int} {tgt : Nat} (hd : decode M.2.1 pc = .ok (.if_icmp .lt off, 3)) (ht : (pc : Int) + off = (tgt : Int)) (hx : inI x) (hy : inI y) (kt : x < y → VV X M tgt L st σ Q) (kf : y ≤ x → VV X M (pc + 3) L st σ Q) : VV X M pc L (.int (gI y) :: .int (gI x) :: st) σ Q := by
  intro p e s m args below meth c A cells slots Z C hz H locs ls Wd S hl
  exact lv_icmp_lt C.1 C.2.1 hd ht (fun q => kt ((gI_lt hx hy).mp q) p e s m args below meth c A cells slots Z C hz H locs ls Wd S hl) (fun q => kf ((by have z := mt (gI_lt hx hy).mpr q; omega)) p e s m args below meth c A cells slots Z C hz H locs ls Wd S hl)
theorem V_icmp_ge {X : Cx} {M : MI} {pc : Nat} {L : List (Nat × Value)} {st : List Value} {σ : Sg} {Q : Int → Sg → Prop} {x y : Int} {off : Int} {tgt : Nat} (hd : decode M.2.1 pc = .ok (.if_icmp .ge off, 3)) (ht : (pc : Int) + off = (tgt : Int)) (hx : inI x) (hy : inI y) (kt : y ≤ x → VV X M tgt L st σ Q) (kf : x < y → VV X M (pc + 3) L st σ Q) : VV X M pc L (.int (gI y) :: .int (gI x) :: st) σ Q := by
  intro p e s m args below meth c A cells slots Z C hz H locs ls Wd S hl
  exact lv_icmp_ge C.1 C.2.1 hd ht (fun q => kt ((gI_le hy hx).mp q) p e s m args below meth c A cells slots Z C hz H locs ls Wd S hl) (fun q => kf ((by have z := mt (gI_le hy hx).mpr q; omega)) p e s m args below meth c A cells slots Z C hz H locs ls Wd S hl)
theorem V_icmp_gt {X : Cx} {M : MI} {pc : Nat} {L : List (Nat × Value)} {st : List Value} {σ : Sg} {Q : Int → Sg → Prop} {x y : Int} {off : Int} {tgt : Nat} (hd : decode M.2.1 pc = .ok (.if_icmp .gt off, 3)) (ht : (pc : Int) + off = (tgt : Int)) (hx : inI x) (hy : inI y) (kt : y < x → VV X M tgt L st σ Q) (kf : x ≤ y → VV X M (pc + 3) L st σ Q) : VV X M pc L (.int (gI y) :: .int (gI x) :: st) σ Q := by
  intro p e s m args below meth c A cells slots Z C hz H locs ls Wd S hl
  exact lv_icmp_gt C.1 C.2.1 hd ht (fun q => kt ((gI_lt hy hx).mp q) p e s m args below meth c A cells slots Z C hz H locs ls Wd S hl) (fun q => kf ((by have z := mt (gI_lt hy hx).mpr q; omega)) p e s m args below meth c A cells slots Z C hz H locs ls Wd S hl)
theorem V_icmp_le {X : Cx} {M : MI} {pc : Nat} {L : List (Nat × Value)} {st : List Value} {σ : Sg} {Q : Int → Sg → Prop} {x y : Int} {off : Int} {tgt : Nat} (hd : decode M.2.1 pc = .ok (.if_icmp .le off, 3)) (ht : (pc : Int) + off = (tgt : Int)) (hx : inI x) (hy : inI y) (kt : x ≤ y → VV X M tgt L st σ Q) (kf : y < x → VV X M (pc + 3) L st σ Q) : VV X M pc L (.int (gI y) :: .int (gI x) :: st) σ Q := by
  intro p e s m args below meth c A cells slots Z C hz H locs ls Wd S hl
  exact lv_icmp_le C.1 C.2.1 hd ht (fun q => kt ((gI_le hx hy).mp q) p e s m args below meth c A cells slots Z C hz H locs ls Wd S hl) (fun q => kf ((by have z := mt (gI_le hx hy).mpr q; omega)) p e s m args below meth c A cells slots Z C hz H locs ls Wd S hl)
theorem V_goto {X : Cx} {M : MI} {pc : Nat} {L : List (Nat × Value)} {st : List Value} {σ : Sg} {Q : Int → Sg → Prop} {off : Int} {tgt : Nat} (hd : decode M.2.1 pc = .ok (.goto off, 3)) (ht : (pc : Int) + off = (tgt : Int)) (k : VV X M tgt L st σ Q) : VV X M pc L st σ Q := by
  intro p e s m args below meth c A cells slots Z C hz H locs ls Wd S hl
  exact lv_goto C.1 C.2.1 hd ht (k p e s m args below meth c A cells slots Z C hz H locs ls Wd S hl)
