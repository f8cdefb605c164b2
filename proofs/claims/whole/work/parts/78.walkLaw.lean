/-! the law's walk: answers are compared as the machine does -/
theorem V_icmp_eqG {X : Cx} {M : MI} {pc : Nat} {L : List (Nat × Value)} {st : List Value} {σ : Sg} {Q : Int → Sg → Prop} {x y : Int} {off : Int} {tgt : Nat} (hd : decode M.2.1 pc = .ok (.if_icmp .eq off, 3)) (ht : (pc : Int) + off = (tgt : Int)) (kt : gI x = gI y → VV X M tgt L st σ Q) (kf : ¬ gI x = gI y → VV X M (pc + 3) L st σ Q) : VV X M pc L (.int (gI y) :: .int (gI x) :: st) σ Q := by
  intro p e s m args below meth c A cells slots Z C hz H locs ls Wd S hl
  exact lv_icmp_eq C.1 C.2.1 hd ht (fun q => kt q p e s m args below meth c A cells slots Z C hz H locs ls Wd S hl) (fun q => kf q p e s m args below meth c A cells slots Z C hz H locs ls Wd S hl)
/-! printed by program: the law -/
def GLw_18 (X : Cx) (v3 : Int) (σ : Sg) (Q : Int → Sg → Prop) : Prop := VV X mL_law 18 [(0, .ref (cxB X)), (1, .ref (cxA X 0)), (2, .ref (cxA X 69)), (3, .int (gI v3))] [] σ Q
def GLw_853 (X : Cx) (v3 : Int) (σ : Sg) (Q : Int → Sg → Prop) : Prop := VV X mL_law 853 [(0, .ref (cxB X)), (1, .ref (cxA X 0)), (2, .ref (cxA X 69)), (3, .int (gI v3))] [] σ Q
set_option maxHeartbeats 2000000 in
set_option maxRecDepth 20000 in
theorem rLw_18 {X : Cx} {v3 : Int} (hcN : cxN X < 2147483648) {σ : Sg} {Q : Int → Sg → Prop} (h : Rng σ → (inI v3) ∧ (inI (((cxN X : Int)) - 5)) ∧ (((((cxN X : Int)) - 5) < v3 → Q 1 σ) ∧ (v3 ≤ (((cxN X : Int)) - 5) → (0 ≤ v3 ∧ v3 < cxN X) ∧ (((zand ((cxS X v3.toNat).toInt) 31) = 0 → (0 ≤ v3 + 1 ∧ v3 + 1 < cxN X) ∧ (0 ≤ v3 + 2 ∧ v3 + 2 < cxN X) ∧ (0 ≤ v3 + 3 ∧ v3 + 3 < cxN X) ∧ (0 ≤ v3 + 4 ∧ v3 + 4 < cxN X) ∧ KX11_thing X ((cxS X ((v3 + 1).toNat)).toInt) ((cxS X ((v3 + 2).toNat)).toInt) ((cxS X ((v3 + 3).toNat)).toInt) ((cxS X ((v3 + 4).toNat)).toInt) σ (fun r10 σ11 => Rng σ11 → (0 ≤ v3 + 1 ∧ v3 + 1 < cxN X) ∧ (0 ≤ v3 + 2 ∧ v3 + 2 < cxN X) ∧ (0 ≤ v3 + 3 ∧ v3 + 3 < cxN X) ∧ (0 ≤ v3 + 4 ∧ v3 + 4 < cxN X) ∧ KX12_thing X ((cxS X ((v3 + 1).toNat)).toInt) ((cxS X ((v3 + 2).toNat)).toInt) ((cxS X ((v3 + 3).toNat)).toInt) ((cxS X ((v3 + 4).toNat)).toInt) σ11 (fun r17 σ18 => Rng σ18 → ((gI r10 = gI r17 → GLw_853 X v3 σ18 Q) ∧ (¬ gI r10 = gI r17 → Q 0 σ18))))) ∧ ((zand ((cxS X v3.toNat).toInt) 31) = 1 → (0 ≤ v3 + 1 ∧ v3 + 1 < cxN X) ∧ (0 ≤ v3 + 2 ∧ v3 + 2 < cxN X) ∧ (0 ≤ v3 + 3 ∧ v3 + 3 < cxN X) ∧ KX11_paint X ((cxS X ((v3 + 1).toNat)).toInt) ((cxS X ((v3 + 2).toNat)).toInt) ((cxS X ((v3 + 3).toNat)).toInt) σ (fun r26 σ27 => Rng σ27 → (0 ≤ v3 + 1 ∧ v3 + 1 < cxN X) ∧ (0 ≤ v3 + 2 ∧ v3 + 2 < cxN X) ∧ (0 ≤ v3 + 3 ∧ v3 + 3 < cxN X) ∧ KX12_paint X ((cxS X ((v3 + 1).toNat)).toInt) ((cxS X ((v3 + 2).toNat)).toInt) ((cxS X ((v3 + 3).toNat)).toInt) σ27 (fun r32 σ33 => Rng σ33 → ((gI r26 = gI r32 → GLw_853 X v3 σ33 Q) ∧ (¬ gI r26 = gI r32 → Q 0 σ33))))) ∧ ((zand ((cxS X v3.toNat).toInt) 31) = 2 → (0 ≤ v3 + 1 ∧ v3 + 1 < cxN X) ∧ (0 ≤ v3 + 2 ∧ v3 + 2 < cxN X) ∧ KX11_tie X ((cxS X ((v3 + 1).toNat)).toInt) ((cxS X ((v3 + 2).toNat)).toInt) σ (fun r40 σ41 => Rng σ41 → (0 ≤ v3 + 1 ∧ v3 + 1 < cxN X) ∧ (0 ≤ v3 + 2 ∧ v3 + 2 < cxN X) ∧ KX12_tie X ((cxS X ((v3 + 1).toNat)).toInt) ((cxS X ((v3 + 2).toNat)).toInt) σ41 (fun r45 σ46 => Rng σ46 → ((gI r40 = gI r45 → GLw_853 X v3 σ46 Q) ∧ (¬ gI r40 = gI r45 → Q 0 σ46))))) ∧ ((zand ((cxS X v3.toNat).toInt) 31) = 3 → (0 ≤ v3 + 1 ∧ v3 + 1 < cxN X) ∧ (0 ≤ v3 + 2 ∧ v3 + 2 < cxN X) ∧ KX11_of X ((cxS X ((v3 + 1).toNat)).toInt) ((cxS X ((v3 + 2).toNat)).toInt) σ (fun r53 σ54 => Rng σ54 → (0 ≤ v3 + 1 ∧ v3 + 1 < cxN X) ∧ (0 ≤ v3 + 2 ∧ v3 + 2 < cxN X) ∧ KX12_of X ((cxS X ((v3 + 1).toNat)).toInt) ((cxS X ((v3 + 2).toNat)).toInt) σ54 (fun r58 σ59 => Rng σ59 → ((gI r53 = gI r58 → GLw_853 X v3 σ59 Q) ∧ (¬ gI r53 = gI r58 → Q 0 σ59))))) ∧ ((zand ((cxS X v3.toNat).toInt) 31) = 4 → (0 ≤ v3 + 1 ∧ v3 + 1 < cxN X) ∧ (0 ≤ v3 + 2 ∧ v3 + 2 < cxN X) ∧ KX11_price X ((cxS X ((v3 + 1).toNat)).toInt) ((cxS X ((v3 + 2).toNat)).toInt) σ (fun r66 σ67 => Rng σ67 → (0 ≤ v3 + 1 ∧ v3 + 1 < cxN X) ∧ (0 ≤ v3 + 2 ∧ v3 + 2 < cxN X) ∧ KX12_price X ((cxS X ((v3 + 1).toNat)).toInt) ((cxS X ((v3 + 2).toNat)).toInt) σ67 (fun r71 σ72 => Rng σ72 → ((gI r66 = gI r71 → GLw_853 X v3 σ72 Q) ∧ (¬ gI r66 = gI r71 → Q 0 σ72))))) ∧ ((zand ((cxS X v3.toNat).toInt) 31) = 5 → (0 ≤ v3 + 1 ∧ v3 + 1 < cxN X) ∧ (0 ≤ v3 + 2 ∧ v3 + 2 < cxN X) ∧ (0 ≤ v3 + 3 ∧ v3 + 3 < cxN X) ∧ KX11_write X (jor (jshl ((cxS X ((v3 + 1).toNat)).toInt) 32) (jand ((cxS X ((v3 + 2).toNat)).toInt) 4294967295)) ((cxS X ((v3 + 3).toNat)).toInt) σ (fun r80 σ81 => Rng σ81 → (0 ≤ v3 + 1 ∧ v3 + 1 < cxN X) ∧ (0 ≤ v3 + 2 ∧ v3 + 2 < cxN X) ∧ (0 ≤ v3 + 3 ∧ v3 + 3 < cxN X) ∧ KX12_write X (jor (jshl ((cxS X ((v3 + 1).toNat)).toInt) 32) (jand ((cxS X ((v3 + 2).toNat)).toInt) 4294967295)) ((cxS X ((v3 + 3).toNat)).toInt) σ81 (fun r86 σ87 => Rng σ87 → ((gI r80 = gI r86 → GLw_853 X v3 σ87 Q) ∧ (¬ gI r80 = gI r86 → Q 0 σ87))))) ∧ ((zand ((cxS X v3.toNat).toInt) 31) = 6 → KX11_erase X σ (fun r92 σ93 => Rng σ93 → KX12_erase X σ93 (fun r95 σ96 => Rng σ96 → ((gI r92 = gI r95 → GLw_853 X v3 σ96 Q) ∧ (¬ gI r92 = gI r95 → Q 0 σ96))))) ∧ ((zand ((cxS X v3.toNat).toInt) 31) = 7 → KX11_fault X σ (fun r101 σ102 => Rng σ102 → KX12_fault X σ102 (fun r104 σ105 => Rng σ105 → ((gI r101 = gI r104 → GLw_853 X v3 σ105 Q) ∧ (¬ gI r101 = gI r104 → Q 0 σ105))))) ∧ ((zand ((cxS X v3.toNat).toInt) 31) = 8 → (0 ≤ v3 + 1 ∧ v3 + 1 < cxN X) ∧ KX11_says X ((cxS X ((v3 + 1).toNat)).toInt) σ (fun r111 σ112 => Rng σ112 → (0 ≤ v3 + 1 ∧ v3 + 1 < cxN X) ∧ KX12_says X ((cxS X ((v3 + 1).toNat)).toInt) σ112 (fun r115 σ116 => Rng σ116 → ((gI r111 = gI r115 → GLw_853 X v3 σ116 Q) ∧ (¬ gI r111 = gI r115 → Q 0 σ116))))) ∧ ((zand ((cxS X v3.toNat).toInt) 31) = 9 → KX11_keep X σ (fun r121 σ122 => Rng σ122 → KX12_keep X σ122 (fun r124 σ125 => Rng σ125 → ((gI r121 = gI r124 → GLw_853 X v3 σ125 Q) ∧ (¬ gI r121 = gI r124 → Q 0 σ125))))) ∧ ((zand ((cxS X v3.toNat).toInt) 31) = 10 → (0 ≤ v3 + 1 ∧ v3 + 1 < cxN X) ∧ (0 ≤ v3 + 2 ∧ v3 + 2 < cxN X) ∧ KX11_kept X ((cxS X ((v3 + 1).toNat)).toInt) ((cxS X ((v3 + 2).toNat)).toInt) σ (fun r132 σ133 => Rng σ133 → (0 ≤ v3 + 1 ∧ v3 + 1 < cxN X) ∧ (0 ≤ v3 + 2 ∧ v3 + 2 < cxN X) ∧ KX12_kept X ((cxS X ((v3 + 1).toNat)).toInt) ((cxS X ((v3 + 2).toNat)).toInt) σ133 (fun r137 σ138 => Rng σ138 → ((gI r132 = gI r137 → GLw_853 X v3 σ138 Q) ∧ (¬ gI r132 = gI r137 → Q 0 σ138))))) ∧ ((zand ((cxS X v3.toNat).toInt) 31) = 11 → (0 ≤ v3 + 1 ∧ v3 + 1 < cxN X) ∧ (0 ≤ v3 + 2 ∧ v3 + 2 < cxN X) ∧ (0 ≤ v3 + 3 ∧ v3 + 3 < cxN X) ∧ KX11_cheapest X ((cxS X ((v3 + 1).toNat)).toInt) ((cxS X ((v3 + 2).toNat)).toInt) ((cxS X ((v3 + 3).toNat)).toInt) σ (fun r146 σ147 => Rng σ147 → (0 ≤ v3 + 1 ∧ v3 + 1 < cxN X) ∧ (0 ≤ v3 + 2 ∧ v3 + 2 < cxN X) ∧ (0 ≤ v3 + 3 ∧ v3 + 3 < cxN X) ∧ KX12_cheapest X ((cxS X ((v3 + 1).toNat)).toInt) ((cxS X ((v3 + 2).toNat)).toInt) ((cxS X ((v3 + 3).toNat)).toInt) σ147 (fun r152 σ153 => Rng σ153 → ((gI r146 = gI r152 → GLw_853 X v3 σ153 Q) ∧ (¬ gI r146 = gI r152 → Q 0 σ153))))) ∧ ((zand ((cxS X v3.toNat).toInt) 31) = 12 → (0 ≤ v3 + 1 ∧ v3 + 1 < cxN X) ∧ KX11_sets X ((cxS X ((v3 + 1).toNat)).toInt) σ (fun r159 σ160 => Rng σ160 → (0 ≤ v3 + 1 ∧ v3 + 1 < cxN X) ∧ KX12_sets X ((cxS X ((v3 + 1).toNat)).toInt) σ160 (fun r163 σ164 => Rng σ164 → ((gI r159 = gI r163 → GLw_853 X v3 σ164 Q) ∧ (¬ gI r159 = gI r163 → Q 0 σ164))))) ∧ ((zand ((cxS X v3.toNat).toInt) 31) = 13 → (0 ≤ v3 + 1 ∧ v3 + 1 < cxN X) ∧ KX11_quick X ((cxS X ((v3 + 1).toNat)).toInt) σ (fun r170 σ171 => Rng σ171 → (0 ≤ v3 + 1 ∧ v3 + 1 < cxN X) ∧ KX12_quick X ((cxS X ((v3 + 1).toNat)).toInt) σ171 (fun r174 σ175 => Rng σ175 → ((gI r170 = gI r174 → GLw_853 X v3 σ175 Q) ∧ (¬ gI r170 = gI r174 → Q 0 σ175))))) ∧ ((zand ((cxS X v3.toNat).toInt) 31) = 14 → (0 ≤ v3 + 1 ∧ v3 + 1 < cxN X) ∧ (0 ≤ v3 + 2 ∧ v3 + 2 < cxN X) ∧ KX11_twin X ((cxS X ((v3 + 1).toNat)).toInt) ((cxS X ((v3 + 2).toNat)).toInt) σ (fun r182 σ183 => Rng σ183 → (0 ≤ v3 + 1 ∧ v3 + 1 < cxN X) ∧ (0 ≤ v3 + 2 ∧ v3 + 2 < cxN X) ∧ KX12_twin X ((cxS X ((v3 + 1).toNat)).toInt) ((cxS X ((v3 + 2).toNat)).toInt) σ183 (fun r187 σ188 => Rng σ188 → ((gI r182 = gI r187 → GLw_853 X v3 σ188 Q) ∧ (¬ gI r182 = gI r187 → Q 0 σ188))))) ∧ ((zand ((cxS X v3.toNat).toInt) 31) = 15 → KX11_breaks X σ (fun r193 σ194 => Rng σ194 → KX12_breaks X σ194 (fun r196 σ197 => Rng σ197 → ((gI r193 = gI r196 → GLw_853 X v3 σ197 Q) ∧ (¬ gI r193 = gI r196 → Q 0 σ197))))) ∧ ((zand ((cxS X v3.toNat).toInt) 31) = 16 → (0 ≤ v3 + 1 ∧ v3 + 1 < cxN X) ∧ (0 ≤ v3 + 2 ∧ v3 + 2 < cxN X) ∧ KX11_hears X ((cxS X ((v3 + 1).toNat)).toInt) ((cxS X ((v3 + 2).toNat)).toInt) σ (fun r204 σ205 => Rng σ205 → (0 ≤ v3 + 1 ∧ v3 + 1 < cxN X) ∧ (0 ≤ v3 + 2 ∧ v3 + 2 < cxN X) ∧ KX12_hears X ((cxS X ((v3 + 1).toNat)).toInt) ((cxS X ((v3 + 2).toNat)).toInt) σ205 (fun r209 σ210 => Rng σ210 → ((gI r204 = gI r209 → GLw_853 X v3 σ210 Q) ∧ (¬ gI r204 = gI r209 → Q 0 σ210))))) ∧ ((zand ((cxS X v3.toNat).toInt) 31) = 17 → (0 ≤ v3 + 1 ∧ v3 + 1 < cxN X) ∧ (0 ≤ v3 + 2 ∧ v3 + 2 < cxN X) ∧ KX11_tells X ((cxS X ((v3 + 1).toNat)).toInt) ((cxS X ((v3 + 2).toNat)).toInt) σ (fun r217 σ218 => Rng σ218 → (0 ≤ v3 + 1 ∧ v3 + 1 < cxN X) ∧ (0 ≤ v3 + 2 ∧ v3 + 2 < cxN X) ∧ KX12_tells X ((cxS X ((v3 + 1).toNat)).toInt) ((cxS X ((v3 + 2).toNat)).toInt) σ218 (fun r222 σ223 => Rng σ223 → ((gI r217 = gI r222 → GLw_853 X v3 σ223 Q) ∧ (¬ gI r217 = gI r222 → Q 0 σ223))))) ∧ ((zand ((cxS X v3.toNat).toInt) 31) = 18 → KX11_ends X σ (fun r228 σ229 => Rng σ229 → KX12_ends X σ229 (fun r231 σ232 => Rng σ232 → ((gI r228 = gI r231 → GLw_853 X v3 σ232 Q) ∧ (¬ gI r228 = gI r231 → Q 0 σ232))))) ∧ ((zand ((cxS X v3.toNat).toInt) 31) = 19 → (0 ≤ v3 + 1 ∧ v3 + 1 < cxN X) ∧ KX11_wrong X ((cxS X ((v3 + 1).toNat)).toInt) σ (fun r238 σ239 => Rng σ239 → (0 ≤ v3 + 1 ∧ v3 + 1 < cxN X) ∧ KX12_wrong X ((cxS X ((v3 + 1).toNat)).toInt) σ239 (fun r242 σ243 => Rng σ243 → ((gI r238 = gI r242 → GLw_853 X v3 σ243 Q) ∧ (¬ gI r238 = gI r242 → Q 0 σ243))))) ∧ ((zand ((cxS X v3.toNat).toInt) 31) = 20 → (0 ≤ v3 + 1 ∧ v3 + 1 < cxN X) ∧ KX11_name X ((cxS X ((v3 + 1).toNat)).toInt) σ (fun r249 σ250 => Rng σ250 → (0 ≤ v3 + 1 ∧ v3 + 1 < cxN X) ∧ KX12_name X ((cxS X ((v3 + 1).toNat)).toInt) σ250 (fun r253 σ254 => Rng σ254 → ((gI r249 = gI r253 → GLw_853 X v3 σ254 Q) ∧ (¬ gI r249 = gI r253 → Q 0 σ254))))) ∧ ((zand ((cxS X v3.toNat).toInt) 31) = 21 → KX11_hush X σ (fun r259 σ260 => Rng σ260 → KX12_hush X σ260 (fun r262 σ263 => Rng σ263 → ((gI r259 = gI r262 → GLw_853 X v3 σ263 Q) ∧ (¬ gI r259 = gI r262 → Q 0 σ263))))) ∧ ((zand ((cxS X v3.toNat).toInt) 31) = 22 → (0 ≤ v3 + 1 ∧ v3 + 1 < cxN X) ∧ KX11_talk X ((cxS X ((v3 + 1).toNat)).toInt) σ (fun r269 σ270 => Rng σ270 → (0 ≤ v3 + 1 ∧ v3 + 1 < cxN X) ∧ KX12_talk X ((cxS X ((v3 + 1).toNat)).toInt) σ270 (fun r273 σ274 => Rng σ274 → ((gI r269 = gI r273 → GLw_853 X v3 σ274 Q) ∧ (¬ gI r269 = gI r273 → Q 0 σ274))))) ∧ ((zand ((cxS X v3.toNat).toInt) 31) = 23 → (0 ≤ v3 + 1 ∧ v3 + 1 < cxN X) ∧ (0 ≤ v3 + 2 ∧ v3 + 2 < cxN X) ∧ KX11_worth X ((cxS X ((v3 + 1).toNat)).toInt) ((cxS X ((v3 + 2).toNat)).toInt) σ (fun r281 σ282 => Rng σ282 → (0 ≤ v3 + 1 ∧ v3 + 1 < cxN X) ∧ (0 ≤ v3 + 2 ∧ v3 + 2 < cxN X) ∧ KX12_worth X ((cxS X ((v3 + 1).toNat)).toInt) ((cxS X ((v3 + 2).toNat)).toInt) σ282 (fun r286 σ287 => Rng σ287 → ((gI r281 = gI r286 → GLw_853 X v3 σ287 Q) ∧ (¬ gI r281 = gI r286 → Q 0 σ287))))) ∧ ((zand ((cxS X v3.toNat).toInt) 31) = 24 → (0 ≤ v3 + 1 ∧ v3 + 1 < cxN X) ∧ KX11_count X ((cxS X ((v3 + 1).toNat)).toInt) σ (fun r293 σ294 => Rng σ294 → (0 ≤ v3 + 1 ∧ v3 + 1 < cxN X) ∧ KX12_count X ((cxS X ((v3 + 1).toNat)).toInt) σ294 (fun r297 σ298 => Rng σ298 → ((gI r293 = gI r297 → GLw_853 X v3 σ298 Q) ∧ (¬ gI r293 = gI r297 → Q 0 σ298))))) ∧ (¬ (zand ((cxS X v3.toNat).toInt) 31) = 0 ∧ ¬ (zand ((cxS X v3.toNat).toInt) 31) = 1 ∧ ¬ (zand ((cxS X v3.toNat).toInt) 31) = 2 ∧ ¬ (zand ((cxS X v3.toNat).toInt) 31) = 3 ∧ ¬ (zand ((cxS X v3.toNat).toInt) 31) = 4 ∧ ¬ (zand ((cxS X v3.toNat).toInt) 31) = 5 ∧ ¬ (zand ((cxS X v3.toNat).toInt) 31) = 6 ∧ ¬ (zand ((cxS X v3.toNat).toInt) 31) = 7 ∧ ¬ (zand ((cxS X v3.toNat).toInt) 31) = 8 ∧ ¬ (zand ((cxS X v3.toNat).toInt) 31) = 9 ∧ ¬ (zand ((cxS X v3.toNat).toInt) 31) = 10 ∧ ¬ (zand ((cxS X v3.toNat).toInt) 31) = 11 ∧ ¬ (zand ((cxS X v3.toNat).toInt) 31) = 12 ∧ ¬ (zand ((cxS X v3.toNat).toInt) 31) = 13 ∧ ¬ (zand ((cxS X v3.toNat).toInt) 31) = 14 ∧ ¬ (zand ((cxS X v3.toNat).toInt) 31) = 15 ∧ ¬ (zand ((cxS X v3.toNat).toInt) 31) = 16 ∧ ¬ (zand ((cxS X v3.toNat).toInt) 31) = 17 ∧ ¬ (zand ((cxS X v3.toNat).toInt) 31) = 18 ∧ ¬ (zand ((cxS X v3.toNat).toInt) 31) = 19 ∧ ¬ (zand ((cxS X v3.toNat).toInt) 31) = 20 ∧ ¬ (zand ((cxS X v3.toNat).toInt) 31) = 21 ∧ ¬ (zand ((cxS X v3.toNat).toInt) 31) = 22 ∧ ¬ (zand ((cxS X v3.toNat).toInt) 31) = 23 ∧ ¬ (zand ((cxS X v3.toNat).toInt) 31) = 24 → GLw_853 X v3 σ Q))))) : GLw_18 X v3 σ Q := by
  unfold GLw_18
  refine V_rng (fun hR0 => ?_)
  have h := h hR0
  refine V_iload_n 3 rfl rfl dL_law_18 ?_
  refine V_aload_n 0 rfl rfl dL_law_19 ?_
  refine V_slen dL_law_20 ?_
  refine V_iconst dL_law_21 ?_
  refine V_isub dL_law_22 ?_
  obtain ⟨g1, h⟩ := h
  obtain ⟨g2, h⟩ := h
  refine V_icmp_gt (tgt := 859) dL_law_23 (by decide) g1 g2 (fun q3 => ?_) (fun q3 => ?_)
  · have h := h.1 q3
    refine V_iconst dL_law_859 ?_
    exact V_iret rfl (fun _ q => by cases q) (by decide) dL_law_860 h
  · have h := h.2 q3
    refine V_aload_n 0 rfl rfl dL_law_26 ?_
    refine V_iload_n 3 rfl rfl dL_law_27 ?_
    obtain ⟨g4, h⟩ := h
    refine V_sld hcN g4 dL_law_28 ?_
    refine V_bipush (v := 31) (by decide) dL_law_29 ?_
    refine V_iand dL_law_31 ?_
    rcases (show (zand ((cxS X v3.toNat).toInt) 31) = 0 ∨ (zand ((cxS X v3.toNat).toInt) 31) = 1 ∨ (zand ((cxS X v3.toNat).toInt) 31) = 2 ∨ (zand ((cxS X v3.toNat).toInt) 31) = 3 ∨ (zand ((cxS X v3.toNat).toInt) 31) = 4 ∨ (zand ((cxS X v3.toNat).toInt) 31) = 5 ∨ (zand ((cxS X v3.toNat).toInt) 31) = 6 ∨ (zand ((cxS X v3.toNat).toInt) 31) = 7 ∨ (zand ((cxS X v3.toNat).toInt) 31) = 8 ∨ (zand ((cxS X v3.toNat).toInt) 31) = 9 ∨ (zand ((cxS X v3.toNat).toInt) 31) = 10 ∨ (zand ((cxS X v3.toNat).toInt) 31) = 11 ∨ (zand ((cxS X v3.toNat).toInt) 31) = 12 ∨ (zand ((cxS X v3.toNat).toInt) 31) = 13 ∨ (zand ((cxS X v3.toNat).toInt) 31) = 14 ∨ (zand ((cxS X v3.toNat).toInt) 31) = 15 ∨ (zand ((cxS X v3.toNat).toInt) 31) = 16 ∨ (zand ((cxS X v3.toNat).toInt) 31) = 17 ∨ (zand ((cxS X v3.toNat).toInt) 31) = 18 ∨ (zand ((cxS X v3.toNat).toInt) 31) = 19 ∨ (zand ((cxS X v3.toNat).toInt) 31) = 20 ∨ (zand ((cxS X v3.toNat).toInt) 31) = 21 ∨ (zand ((cxS X v3.toNat).toInt) 31) = 22 ∨ (zand ((cxS X v3.toNat).toInt) 31) = 23 ∨ (zand ((cxS X v3.toNat).toInt) 31) = 24 ∨ (¬ (zand ((cxS X v3.toNat).toInt) 31) = 0 ∧ ¬ (zand ((cxS X v3.toNat).toInt) 31) = 1 ∧ ¬ (zand ((cxS X v3.toNat).toInt) 31) = 2 ∧ ¬ (zand ((cxS X v3.toNat).toInt) 31) = 3 ∧ ¬ (zand ((cxS X v3.toNat).toInt) 31) = 4 ∧ ¬ (zand ((cxS X v3.toNat).toInt) 31) = 5 ∧ ¬ (zand ((cxS X v3.toNat).toInt) 31) = 6 ∧ ¬ (zand ((cxS X v3.toNat).toInt) 31) = 7 ∧ ¬ (zand ((cxS X v3.toNat).toInt) 31) = 8 ∧ ¬ (zand ((cxS X v3.toNat).toInt) 31) = 9 ∧ ¬ (zand ((cxS X v3.toNat).toInt) 31) = 10 ∧ ¬ (zand ((cxS X v3.toNat).toInt) 31) = 11 ∧ ¬ (zand ((cxS X v3.toNat).toInt) 31) = 12 ∧ ¬ (zand ((cxS X v3.toNat).toInt) 31) = 13 ∧ ¬ (zand ((cxS X v3.toNat).toInt) 31) = 14 ∧ ¬ (zand ((cxS X v3.toNat).toInt) 31) = 15 ∧ ¬ (zand ((cxS X v3.toNat).toInt) 31) = 16 ∧ ¬ (zand ((cxS X v3.toNat).toInt) 31) = 17 ∧ ¬ (zand ((cxS X v3.toNat).toInt) 31) = 18 ∧ ¬ (zand ((cxS X v3.toNat).toInt) 31) = 19 ∧ ¬ (zand ((cxS X v3.toNat).toInt) 31) = 20 ∧ ¬ (zand ((cxS X v3.toNat).toInt) 31) = 21 ∧ ¬ (zand ((cxS X v3.toNat).toInt) 31) = 22 ∧ ¬ (zand ((cxS X v3.toNat).toInt) 31) = 23 ∧ ¬ (zand ((cxS X v3.toNat).toInt) 31) = 24) by omega) with q5 | q5 | q5 | q5 | q5 | q5 | q5 | q5 | q5 | q5 | q5 | q5 | q5 | q5 | q5 | q5 | q5 | q5 | q5 | q5 | q5 | q5 | q5 | q5 | q5 | q5
    · have h := h.1 q5
      refine V_tsw (tgt := 148) (off := 116) dL_law_32 (inI_z _) (by omega) (by omega) (by rw [q5]; rfl) (by decide) ?_
      refine V_aload_n 1 rfl rfl dL_law_148 ?_
      refine V_aload_n 0 rfl rfl dL_law_149 ?_
      refine V_iload_n 3 rfl rfl dL_law_150 ?_
      refine V_iconst dL_law_151 ?_
      refine V_iadd dL_law_152 ?_
      obtain ⟨g6, h⟩ := h
      refine V_sld hcN g6 dL_law_153 ?_
      refine V_aload_n 0 rfl rfl dL_law_154 ?_
      refine V_iload_n 3 rfl rfl dL_law_155 ?_
      refine V_iconst dL_law_156 ?_
      refine V_iadd dL_law_157 ?_
      obtain ⟨g7, h⟩ := h
      refine V_sld hcN g7 dL_law_158 ?_
      refine V_aload_n 0 rfl rfl dL_law_159 ?_
      refine V_iload_n 3 rfl rfl dL_law_160 ?_
      refine V_iconst dL_law_161 ?_
      refine V_iadd dL_law_162 ?_
      obtain ⟨g8, h⟩ := h
      refine V_sld hcN g8 dL_law_163 ?_
      refine V_aload_n 0 rfl rfl dL_law_164 ?_
      refine V_iload_n 3 rfl rfl dL_law_165 ?_
      refine V_iconst dL_law_166 ?_
      refine V_iadd dL_law_167 ?_
      obtain ⟨g9, h⟩ := h
      refine V_sld hcN g9 dL_law_168 ?_
      refine V_cV (M' := mX11_thing) (As := [.int (gI ((cxS X ((v3 + 1).toNat)).toInt)), .int (gI ((cxS X ((v3 + 2).toNat)).toInt)), .int (gI ((cxS X ((v3 + 3).toNat)).toInt)), .int (gI ((cxS X ((v3 + 4).toNat)).toInt))]) (fun r => [.int (gI r)]) ok_X11_thing ok2_X11_thing sh_0 rfl (by decide) rfl rfl (Nat.le_of_ble_eq_true rfl) dL_law_169 lk_RL_m13 (by decide) (fun _ => rfl) h (fun r10 σ11 h => ?_)
      refine V_rng (fun hR12 => ?_)
      have h := h hR12
      refine V_aload_n 2 rfl rfl dL_law_172 ?_
      refine V_aload_n 0 rfl rfl dL_law_173 ?_
      refine V_iload_n 3 rfl rfl dL_law_174 ?_
      refine V_iconst dL_law_175 ?_
      refine V_iadd dL_law_176 ?_
      obtain ⟨g13, h⟩ := h
      refine V_sld hcN g13 dL_law_177 ?_
      refine V_aload_n 0 rfl rfl dL_law_178 ?_
      refine V_iload_n 3 rfl rfl dL_law_179 ?_
      refine V_iconst dL_law_180 ?_
      refine V_iadd dL_law_181 ?_
      obtain ⟨g14, h⟩ := h
      refine V_sld hcN g14 dL_law_182 ?_
      refine V_aload_n 0 rfl rfl dL_law_183 ?_
      refine V_iload_n 3 rfl rfl dL_law_184 ?_
      refine V_iconst dL_law_185 ?_
      refine V_iadd dL_law_186 ?_
      obtain ⟨g15, h⟩ := h
      refine V_sld hcN g15 dL_law_187 ?_
      refine V_aload_n 0 rfl rfl dL_law_188 ?_
      refine V_iload_n 3 rfl rfl dL_law_189 ?_
      refine V_iconst dL_law_190 ?_
      refine V_iadd dL_law_191 ?_
      obtain ⟨g16, h⟩ := h
      refine V_sld hcN g16 dL_law_192 ?_
      refine V_cV (M' := mX12_thing) (As := [.int (gI ((cxS X ((v3 + 1).toNat)).toInt)), .int (gI ((cxS X ((v3 + 2).toNat)).toInt)), .int (gI ((cxS X ((v3 + 3).toNat)).toInt)), .int (gI ((cxS X ((v3 + 4).toNat)).toInt))]) (fun r => [.int (gI r), .int (gI r10)]) ok_X12_thing ok2_X12_thing sh_69 rfl (by decide) rfl rfl (Nat.le_of_ble_eq_true rfl) dL_law_193 lk_RL_m17 (by decide) (fun _ => rfl) h (fun r17 σ18 h => ?_)
      refine V_rng (fun hR19 => ?_)
      have h := h hR19
      refine V_icmp_eqG (tgt := 853) dL_law_196 (by decide) (fun q22 => ?_) (fun q22 => ?_)
      · have h := h.1 q22
        exact h
      · have h := h.2 q22
        refine V_iconst dL_law_199 ?_
        exact V_iret rfl (fun _ q => by cases q) (by decide) dL_law_200 h
    · have h := h.2.1 q5
      refine V_tsw (tgt := 201) (off := 169) dL_law_32 (inI_z _) (by omega) (by omega) (by rw [q5]; rfl) (by decide) ?_
      refine V_aload_n 1 rfl rfl dL_law_201 ?_
      refine V_aload_n 0 rfl rfl dL_law_202 ?_
      refine V_iload_n 3 rfl rfl dL_law_203 ?_
      refine V_iconst dL_law_204 ?_
      refine V_iadd dL_law_205 ?_
      obtain ⟨g23, h⟩ := h
      refine V_sld hcN g23 dL_law_206 ?_
      refine V_aload_n 0 rfl rfl dL_law_207 ?_
      refine V_iload_n 3 rfl rfl dL_law_208 ?_
      refine V_iconst dL_law_209 ?_
      refine V_iadd dL_law_210 ?_
      obtain ⟨g24, h⟩ := h
      refine V_sld hcN g24 dL_law_211 ?_
      refine V_aload_n 0 rfl rfl dL_law_212 ?_
      refine V_iload_n 3 rfl rfl dL_law_213 ?_
      refine V_iconst dL_law_214 ?_
      refine V_iadd dL_law_215 ?_
      obtain ⟨g25, h⟩ := h
      refine V_sld hcN g25 dL_law_216 ?_
      refine V_cV (M' := mX11_paint) (As := [.int (gI ((cxS X ((v3 + 1).toNat)).toInt)), .int (gI ((cxS X ((v3 + 2).toNat)).toInt)), .int (gI ((cxS X ((v3 + 3).toNat)).toInt))]) (fun r => [.int (gI r)]) ok_X11_paint ok2_X11_paint sh_0 rfl (by decide) rfl rfl (Nat.le_of_ble_eq_true rfl) dL_law_217 lk_RL_m18 (by decide) (fun _ => rfl) h (fun r26 σ27 h => ?_)
      refine V_rng (fun hR28 => ?_)
      have h := h hR28
      refine V_aload_n 2 rfl rfl dL_law_220 ?_
      refine V_aload_n 0 rfl rfl dL_law_221 ?_
      refine V_iload_n 3 rfl rfl dL_law_222 ?_
      refine V_iconst dL_law_223 ?_
      refine V_iadd dL_law_224 ?_
      obtain ⟨g29, h⟩ := h
      refine V_sld hcN g29 dL_law_225 ?_
      refine V_aload_n 0 rfl rfl dL_law_226 ?_
      refine V_iload_n 3 rfl rfl dL_law_227 ?_
      refine V_iconst dL_law_228 ?_
      refine V_iadd dL_law_229 ?_
      obtain ⟨g30, h⟩ := h
      refine V_sld hcN g30 dL_law_230 ?_
      refine V_aload_n 0 rfl rfl dL_law_231 ?_
      refine V_iload_n 3 rfl rfl dL_law_232 ?_
      refine V_iconst dL_law_233 ?_
      refine V_iadd dL_law_234 ?_
      obtain ⟨g31, h⟩ := h
      refine V_sld hcN g31 dL_law_235 ?_
      refine V_cV (M' := mX12_paint) (As := [.int (gI ((cxS X ((v3 + 1).toNat)).toInt)), .int (gI ((cxS X ((v3 + 2).toNat)).toInt)), .int (gI ((cxS X ((v3 + 3).toNat)).toInt))]) (fun r => [.int (gI r), .int (gI r26)]) ok_X12_paint ok2_X12_paint sh_69 rfl (by decide) rfl rfl (Nat.le_of_ble_eq_true rfl) dL_law_236 lk_RL_m22 (by decide) (fun _ => rfl) h (fun r32 σ33 h => ?_)
      refine V_rng (fun hR34 => ?_)
      have h := h hR34
      refine V_icmp_eqG (tgt := 853) dL_law_239 (by decide) (fun q37 => ?_) (fun q37 => ?_)
      · have h := h.1 q37
        exact h
      · have h := h.2 q37
        refine V_iconst dL_law_242 ?_
        exact V_iret rfl (fun _ q => by cases q) (by decide) dL_law_243 h
    · have h := h.2.2.1 q5
      refine V_tsw (tgt := 244) (off := 212) dL_law_32 (inI_z _) (by omega) (by omega) (by rw [q5]; rfl) (by decide) ?_
      refine V_aload_n 1 rfl rfl dL_law_244 ?_
      refine V_aload_n 0 rfl rfl dL_law_245 ?_
      refine V_iload_n 3 rfl rfl dL_law_246 ?_
      refine V_iconst dL_law_247 ?_
      refine V_iadd dL_law_248 ?_
      obtain ⟨g38, h⟩ := h
      refine V_sld hcN g38 dL_law_249 ?_
      refine V_aload_n 0 rfl rfl dL_law_250 ?_
      refine V_iload_n 3 rfl rfl dL_law_251 ?_
      refine V_iconst dL_law_252 ?_
      refine V_iadd dL_law_253 ?_
      obtain ⟨g39, h⟩ := h
      refine V_sld hcN g39 dL_law_254 ?_
      refine V_cV (M' := mX11_tie) (As := [.int (gI ((cxS X ((v3 + 1).toNat)).toInt)), .int (gI ((cxS X ((v3 + 2).toNat)).toInt))]) (fun r => [.int (gI r)]) ok_X11_tie ok2_X11_tie sh_0 rfl (by decide) rfl rfl (Nat.le_of_ble_eq_true rfl) dL_law_255 lk_RL_m23 (by decide) (fun _ => rfl) h (fun r40 σ41 h => ?_)
      refine V_rng (fun hR42 => ?_)
      have h := h hR42
      refine V_aload_n 2 rfl rfl dL_law_258 ?_
      refine V_aload_n 0 rfl rfl dL_law_259 ?_
      refine V_iload_n 3 rfl rfl dL_law_260 ?_
      refine V_iconst dL_law_261 ?_
      refine V_iadd dL_law_262 ?_
      obtain ⟨g43, h⟩ := h
      refine V_sld hcN g43 dL_law_263 ?_
      refine V_aload_n 0 rfl rfl dL_law_264 ?_
      refine V_iload_n 3 rfl rfl dL_law_265 ?_
      refine V_iconst dL_law_266 ?_
      refine V_iadd dL_law_267 ?_
      obtain ⟨g44, h⟩ := h
      refine V_sld hcN g44 dL_law_268 ?_
      refine V_cV (M' := mX12_tie) (As := [.int (gI ((cxS X ((v3 + 1).toNat)).toInt)), .int (gI ((cxS X ((v3 + 2).toNat)).toInt))]) (fun r => [.int (gI r), .int (gI r40)]) ok_X12_tie ok2_X12_tie sh_69 rfl (by decide) rfl rfl (Nat.le_of_ble_eq_true rfl) dL_law_269 lk_RL_m27 (by decide) (fun _ => rfl) h (fun r45 σ46 h => ?_)
      refine V_rng (fun hR47 => ?_)
      have h := h hR47
      refine V_icmp_eqG (tgt := 853) dL_law_272 (by decide) (fun q50 => ?_) (fun q50 => ?_)
      · have h := h.1 q50
        exact h
      · have h := h.2 q50
        refine V_iconst dL_law_275 ?_
        exact V_iret rfl (fun _ q => by cases q) (by decide) dL_law_276 h
    · have h := h.2.2.2.1 q5
      refine V_tsw (tgt := 277) (off := 245) dL_law_32 (inI_z _) (by omega) (by omega) (by rw [q5]; rfl) (by decide) ?_
      refine V_aload_n 1 rfl rfl dL_law_277 ?_
      refine V_aload_n 0 rfl rfl dL_law_278 ?_
      refine V_iload_n 3 rfl rfl dL_law_279 ?_
      refine V_iconst dL_law_280 ?_
      refine V_iadd dL_law_281 ?_
      obtain ⟨g51, h⟩ := h
      refine V_sld hcN g51 dL_law_282 ?_
      refine V_aload_n 0 rfl rfl dL_law_283 ?_
      refine V_iload_n 3 rfl rfl dL_law_284 ?_
      refine V_iconst dL_law_285 ?_
      refine V_iadd dL_law_286 ?_
      obtain ⟨g52, h⟩ := h
      refine V_sld hcN g52 dL_law_287 ?_
      refine V_cV (M' := mX11_of) (As := [.int (gI ((cxS X ((v3 + 1).toNat)).toInt)), .int (gI ((cxS X ((v3 + 2).toNat)).toInt))]) (fun r => [.int (gI r)]) ok_X11_of ok2_X11_of sh_0 rfl (by decide) rfl rfl (Nat.le_of_ble_eq_true rfl) dL_law_288 lk_RL_m28 (by decide) (fun _ => rfl) h (fun r53 σ54 h => ?_)
      refine V_rng (fun hR55 => ?_)
      have h := h hR55
      refine V_aload_n 2 rfl rfl dL_law_291 ?_
      refine V_aload_n 0 rfl rfl dL_law_292 ?_
      refine V_iload_n 3 rfl rfl dL_law_293 ?_
      refine V_iconst dL_law_294 ?_
      refine V_iadd dL_law_295 ?_
      obtain ⟨g56, h⟩ := h
      refine V_sld hcN g56 dL_law_296 ?_
      refine V_aload_n 0 rfl rfl dL_law_297 ?_
      refine V_iload_n 3 rfl rfl dL_law_298 ?_
      refine V_iconst dL_law_299 ?_
      refine V_iadd dL_law_300 ?_
      obtain ⟨g57, h⟩ := h
      refine V_sld hcN g57 dL_law_301 ?_
      refine V_cV (M' := mX12_of) (As := [.int (gI ((cxS X ((v3 + 1).toNat)).toInt)), .int (gI ((cxS X ((v3 + 2).toNat)).toInt))]) (fun r => [.int (gI r), .int (gI r53)]) ok_X12_of ok2_X12_of sh_69 rfl (by decide) rfl rfl (Nat.le_of_ble_eq_true rfl) dL_law_302 lk_RL_m31 (by decide) (fun _ => rfl) h (fun r58 σ59 h => ?_)
      refine V_rng (fun hR60 => ?_)
      have h := h hR60
      refine V_icmp_eqG (tgt := 853) dL_law_305 (by decide) (fun q63 => ?_) (fun q63 => ?_)
      · have h := h.1 q63
        exact h
      · have h := h.2 q63
        refine V_iconst dL_law_308 ?_
        exact V_iret rfl (fun _ q => by cases q) (by decide) dL_law_309 h
    · have h := h.2.2.2.2.1 q5
      refine V_tsw (tgt := 310) (off := 278) dL_law_32 (inI_z _) (by omega) (by omega) (by rw [q5]; rfl) (by decide) ?_
      refine V_aload_n 1 rfl rfl dL_law_310 ?_
      refine V_aload_n 0 rfl rfl dL_law_311 ?_
      refine V_iload_n 3 rfl rfl dL_law_312 ?_
      refine V_iconst dL_law_313 ?_
      refine V_iadd dL_law_314 ?_
      obtain ⟨g64, h⟩ := h
      refine V_sld hcN g64 dL_law_315 ?_
      refine V_aload_n 0 rfl rfl dL_law_316 ?_
      refine V_iload_n 3 rfl rfl dL_law_317 ?_
      refine V_iconst dL_law_318 ?_
      refine V_iadd dL_law_319 ?_
      obtain ⟨g65, h⟩ := h
      refine V_sld hcN g65 dL_law_320 ?_
      refine V_cV (M' := mX11_price) (As := [.int (gI ((cxS X ((v3 + 1).toNat)).toInt)), .int (gI ((cxS X ((v3 + 2).toNat)).toInt))]) (fun r => [.int (gI r)]) ok_X11_price ok2_X11_price sh_0 rfl (by decide) rfl rfl (Nat.le_of_ble_eq_true rfl) dL_law_321 lk_RL_m32 (by decide) (fun _ => rfl) h (fun r66 σ67 h => ?_)
      refine V_rng (fun hR68 => ?_)
      have h := h hR68
      refine V_aload_n 2 rfl rfl dL_law_324 ?_
      refine V_aload_n 0 rfl rfl dL_law_325 ?_
      refine V_iload_n 3 rfl rfl dL_law_326 ?_
      refine V_iconst dL_law_327 ?_
      refine V_iadd dL_law_328 ?_
      obtain ⟨g69, h⟩ := h
      refine V_sld hcN g69 dL_law_329 ?_
      refine V_aload_n 0 rfl rfl dL_law_330 ?_
      refine V_iload_n 3 rfl rfl dL_law_331 ?_
      refine V_iconst dL_law_332 ?_
      refine V_iadd dL_law_333 ?_
      obtain ⟨g70, h⟩ := h
      refine V_sld hcN g70 dL_law_334 ?_
      refine V_cV (M' := mX12_price) (As := [.int (gI ((cxS X ((v3 + 1).toNat)).toInt)), .int (gI ((cxS X ((v3 + 2).toNat)).toInt))]) (fun r => [.int (gI r), .int (gI r66)]) ok_X12_price ok2_X12_price sh_69 rfl (by decide) rfl rfl (Nat.le_of_ble_eq_true rfl) dL_law_335 lk_RL_m35 (by decide) (fun _ => rfl) h (fun r71 σ72 h => ?_)
      refine V_rng (fun hR73 => ?_)
      have h := h hR73
      refine V_icmp_eqG (tgt := 853) dL_law_338 (by decide) (fun q76 => ?_) (fun q76 => ?_)
      · have h := h.1 q76
        exact h
      · have h := h.2 q76
        refine V_iconst dL_law_341 ?_
        exact V_iret rfl (fun _ q => by cases q) (by decide) dL_law_342 h
    · have h := h.2.2.2.2.2.1 q5
      refine V_tsw (tgt := 343) (off := 311) dL_law_32 (inI_z _) (by omega) (by omega) (by rw [q5]; rfl) (by decide) ?_
      refine V_aload_n 1 rfl rfl dL_law_343 ?_
      refine V_aload_n 0 rfl rfl dL_law_344 ?_
      refine V_iload_n 3 rfl rfl dL_law_345 ?_
      refine V_iconst dL_law_346 ?_
      refine V_iadd dL_law_347 ?_
      obtain ⟨g77, h⟩ := h
      refine V_sld hcN g77 dL_law_348 ?_
      refine V_i2l (inI_z _) dL_law_349 ?_
      refine V_bipush (v := 32) (by decide) dL_law_350 ?_
      refine V_lshl dL_law_352 ?_
      refine V_aload_n 0 rfl rfl dL_law_353 ?_
      refine V_iload_n 3 rfl rfl dL_law_354 ?_
      refine V_iconst dL_law_355 ?_
      refine V_iadd dL_law_356 ?_
      obtain ⟨g78, h⟩ := h
      refine V_sld hcN g78 dL_law_357 ?_
      refine V_i2l (inI_z _) dL_law_358 ?_
      refine V_ldc2 (x := (4294967295)) dL_law_359 lk_RL_l36 (by decide) ?_
      refine V_land dL_law_362 ?_
      refine V_lor dL_law_363 ?_
      refine V_aload_n 0 rfl rfl dL_law_364 ?_
      refine V_iload_n 3 rfl rfl dL_law_365 ?_
      refine V_iconst dL_law_366 ?_
      refine V_iadd dL_law_367 ?_
      obtain ⟨g79, h⟩ := h
      refine V_sld hcN g79 dL_law_368 ?_
      refine V_cV (M' := mX11_write) (As := [.long (gJ (jor (jshl ((cxS X ((v3 + 1).toNat)).toInt) 32) (jand ((cxS X ((v3 + 2).toNat)).toInt) 4294967295))), .int (gI ((cxS X ((v3 + 3).toNat)).toInt))]) (fun r => [.int (gI r)]) ok_X11_write ok2_X11_write sh_0 rfl (by decide) rfl rfl (Nat.le_of_ble_eq_true rfl) dL_law_369 lk_RL_m38 (by decide) (fun _ => rfl) h (fun r80 σ81 h => ?_)
      refine V_rng (fun hR82 => ?_)
      have h := h hR82
      refine V_aload_n 2 rfl rfl dL_law_372 ?_
      refine V_aload_n 0 rfl rfl dL_law_373 ?_
      refine V_iload_n 3 rfl rfl dL_law_374 ?_
      refine V_iconst dL_law_375 ?_
      refine V_iadd dL_law_376 ?_
      obtain ⟨g83, h⟩ := h
      refine V_sld hcN g83 dL_law_377 ?_
      refine V_i2l (inI_z _) dL_law_378 ?_
      refine V_bipush (v := 32) (by decide) dL_law_379 ?_
      refine V_lshl dL_law_381 ?_
      refine V_aload_n 0 rfl rfl dL_law_382 ?_
      refine V_iload_n 3 rfl rfl dL_law_383 ?_
      refine V_iconst dL_law_384 ?_
      refine V_iadd dL_law_385 ?_
      obtain ⟨g84, h⟩ := h
      refine V_sld hcN g84 dL_law_386 ?_
      refine V_i2l (inI_z _) dL_law_387 ?_
      refine V_ldc2 (x := (4294967295)) dL_law_388 lk_RL_l36 (by decide) ?_
      refine V_land dL_law_391 ?_
      refine V_lor dL_law_392 ?_
      refine V_aload_n 0 rfl rfl dL_law_393 ?_
      refine V_iload_n 3 rfl rfl dL_law_394 ?_
      refine V_iconst dL_law_395 ?_
      refine V_iadd dL_law_396 ?_
      obtain ⟨g85, h⟩ := h
      refine V_sld hcN g85 dL_law_397 ?_
      refine V_cV (M' := mX12_write) (As := [.long (gJ (jor (jshl ((cxS X ((v3 + 1).toNat)).toInt) 32) (jand ((cxS X ((v3 + 2).toNat)).toInt) 4294967295))), .int (gI ((cxS X ((v3 + 3).toNat)).toInt))]) (fun r => [.int (gI r), .int (gI r80)]) ok_X12_write ok2_X12_write sh_69 rfl (by decide) rfl rfl (Nat.le_of_ble_eq_true rfl) dL_law_398 lk_RL_m42 (by decide) (fun _ => rfl) h (fun r86 σ87 h => ?_)
      refine V_rng (fun hR88 => ?_)
      have h := h hR88
      refine V_icmp_eqG (tgt := 853) dL_law_401 (by decide) (fun q91 => ?_) (fun q91 => ?_)
      · have h := h.1 q91
        exact h
      · have h := h.2 q91
        refine V_iconst dL_law_404 ?_
        exact V_iret rfl (fun _ q => by cases q) (by decide) dL_law_405 h
    · have h := h.2.2.2.2.2.2.1 q5
      refine V_tsw (tgt := 406) (off := 374) dL_law_32 (inI_z _) (by omega) (by omega) (by rw [q5]; rfl) (by decide) ?_
      refine V_aload_n 1 rfl rfl dL_law_406 ?_
      refine V_cV (M' := mX11_erase) (As := []) (fun r => [.int (gI r)]) ok_X11_erase ok2_X11_erase sh_0 rfl (by decide) rfl rfl (Nat.le_of_ble_eq_true rfl) dL_law_407 lk_RL_m43 (by decide) (fun _ => rfl) h (fun r92 σ93 h => ?_)
      refine V_rng (fun hR94 => ?_)
      have h := h hR94
      refine V_aload_n 2 rfl rfl dL_law_410 ?_
      refine V_cV (M' := mX12_erase) (As := []) (fun r => [.int (gI r), .int (gI r92)]) ok_X12_erase ok2_X12_erase sh_69 rfl (by decide) rfl rfl (Nat.le_of_ble_eq_true rfl) dL_law_411 lk_RL_m47 (by decide) (fun _ => rfl) h (fun r95 σ96 h => ?_)
      refine V_rng (fun hR97 => ?_)
      have h := h hR97
      refine V_icmp_eqG (tgt := 853) dL_law_414 (by decide) (fun q100 => ?_) (fun q100 => ?_)
      · have h := h.1 q100
        exact h
      · have h := h.2 q100
        refine V_iconst dL_law_417 ?_
        exact V_iret rfl (fun _ q => by cases q) (by decide) dL_law_418 h
    · have h := h.2.2.2.2.2.2.2.1 q5
      refine V_tsw (tgt := 419) (off := 387) dL_law_32 (inI_z _) (by omega) (by omega) (by rw [q5]; rfl) (by decide) ?_
      refine V_aload_n 1 rfl rfl dL_law_419 ?_
      refine V_cV (M' := mX11_fault) (As := []) (fun r => [.int (gI r)]) ok_X11_fault ok2_X11_fault sh_0 rfl (by decide) rfl rfl (Nat.le_of_ble_eq_true rfl) dL_law_420 lk_RL_m48 (by decide) (fun _ => rfl) h (fun r101 σ102 h => ?_)
      refine V_rng (fun hR103 => ?_)
      have h := h hR103
      refine V_aload_n 2 rfl rfl dL_law_423 ?_
      refine V_cV (M' := mX12_fault) (As := []) (fun r => [.int (gI r), .int (gI r101)]) ok_X12_fault ok2_X12_fault sh_69 rfl (by decide) rfl rfl (Nat.le_of_ble_eq_true rfl) dL_law_424 lk_RL_m51 (by decide) (fun _ => rfl) h (fun r104 σ105 h => ?_)
      refine V_rng (fun hR106 => ?_)
      have h := h hR106
      refine V_icmp_eqG (tgt := 853) dL_law_427 (by decide) (fun q109 => ?_) (fun q109 => ?_)
      · have h := h.1 q109
        exact h
      · have h := h.2 q109
        refine V_iconst dL_law_430 ?_
        exact V_iret rfl (fun _ q => by cases q) (by decide) dL_law_431 h
    · have h := h.2.2.2.2.2.2.2.2.1 q5
      refine V_tsw (tgt := 432) (off := 400) dL_law_32 (inI_z _) (by omega) (by omega) (by rw [q5]; rfl) (by decide) ?_
      refine V_aload_n 1 rfl rfl dL_law_432 ?_
      refine V_aload_n 0 rfl rfl dL_law_433 ?_
      refine V_iload_n 3 rfl rfl dL_law_434 ?_
      refine V_iconst dL_law_435 ?_
      refine V_iadd dL_law_436 ?_
      obtain ⟨g110, h⟩ := h
      refine V_sld hcN g110 dL_law_437 ?_
      refine V_cV (M' := mX11_says) (As := [.int (gI ((cxS X ((v3 + 1).toNat)).toInt))]) (fun r => [.int (gI r)]) ok_X11_says ok2_X11_says sh_0 rfl (by decide) rfl rfl (Nat.le_of_ble_eq_true rfl) dL_law_438 lk_RL_m52 (by decide) (fun _ => rfl) h (fun r111 σ112 h => ?_)
      refine V_rng (fun hR113 => ?_)
      have h := h hR113
      refine V_aload_n 2 rfl rfl dL_law_441 ?_
      refine V_aload_n 0 rfl rfl dL_law_442 ?_
      refine V_iload_n 3 rfl rfl dL_law_443 ?_
      refine V_iconst dL_law_444 ?_
      refine V_iadd dL_law_445 ?_
      obtain ⟨g114, h⟩ := h
      refine V_sld hcN g114 dL_law_446 ?_
      refine V_cV (M' := mX12_says) (As := [.int (gI ((cxS X ((v3 + 1).toNat)).toInt))]) (fun r => [.int (gI r), .int (gI r111)]) ok_X12_says ok2_X12_says sh_69 rfl (by decide) rfl rfl (Nat.le_of_ble_eq_true rfl) dL_law_447 lk_RL_m56 (by decide) (fun _ => rfl) h (fun r115 σ116 h => ?_)
      refine V_rng (fun hR117 => ?_)
      have h := h hR117
      refine V_icmp_eqG (tgt := 853) dL_law_450 (by decide) (fun q120 => ?_) (fun q120 => ?_)
      · have h := h.1 q120
        exact h
      · have h := h.2 q120
        refine V_iconst dL_law_453 ?_
        exact V_iret rfl (fun _ q => by cases q) (by decide) dL_law_454 h
    · have h := h.2.2.2.2.2.2.2.2.2.1 q5
      refine V_tsw (tgt := 455) (off := 423) dL_law_32 (inI_z _) (by omega) (by omega) (by rw [q5]; rfl) (by decide) ?_
      refine V_aload_n 1 rfl rfl dL_law_455 ?_
      refine V_cV (M' := mX11_keep) (As := []) (fun r => [.int (gI r)]) ok_X11_keep ok2_X11_keep sh_0 rfl (by decide) rfl rfl (Nat.le_of_ble_eq_true rfl) dL_law_456 lk_RL_m57 (by decide) (fun _ => rfl) h (fun r121 σ122 h => ?_)
      refine V_rng (fun hR123 => ?_)
      have h := h hR123
      refine V_aload_n 2 rfl rfl dL_law_459 ?_
      refine V_cV (M' := mX12_keep) (As := []) (fun r => [.int (gI r), .int (gI r121)]) ok_X12_keep ok2_X12_keep sh_69 rfl (by decide) rfl rfl (Nat.le_of_ble_eq_true rfl) dL_law_460 lk_RL_m60 (by decide) (fun _ => rfl) h (fun r124 σ125 h => ?_)
      refine V_rng (fun hR126 => ?_)
      have h := h hR126
      refine V_icmp_eqG (tgt := 853) dL_law_463 (by decide) (fun q129 => ?_) (fun q129 => ?_)
      · have h := h.1 q129
        exact h
      · have h := h.2 q129
        refine V_iconst dL_law_466 ?_
        exact V_iret rfl (fun _ q => by cases q) (by decide) dL_law_467 h
    · have h := h.2.2.2.2.2.2.2.2.2.2.1 q5
      refine V_tsw (tgt := 468) (off := 436) dL_law_32 (inI_z _) (by omega) (by omega) (by rw [q5]; rfl) (by decide) ?_
      refine V_aload_n 1 rfl rfl dL_law_468 ?_
      refine V_aload_n 0 rfl rfl dL_law_469 ?_
      refine V_iload_n 3 rfl rfl dL_law_470 ?_
      refine V_iconst dL_law_471 ?_
      refine V_iadd dL_law_472 ?_
      obtain ⟨g130, h⟩ := h
      refine V_sld hcN g130 dL_law_473 ?_
      refine V_aload_n 0 rfl rfl dL_law_474 ?_
      refine V_iload_n 3 rfl rfl dL_law_475 ?_
      refine V_iconst dL_law_476 ?_
      refine V_iadd dL_law_477 ?_
      obtain ⟨g131, h⟩ := h
      refine V_sld hcN g131 dL_law_478 ?_
      refine V_cV (M' := mX11_kept) (As := [.int (gI ((cxS X ((v3 + 1).toNat)).toInt)), .int (gI ((cxS X ((v3 + 2).toNat)).toInt))]) (fun r => [.int (gI r)]) ok_X11_kept ok2_X11_kept sh_0 rfl (by decide) rfl rfl (Nat.le_of_ble_eq_true rfl) dL_law_479 lk_RL_m61 (by decide) (fun _ => rfl) h (fun r132 σ133 h => ?_)
      refine V_rng (fun hR134 => ?_)
      have h := h hR134
      refine V_aload_n 2 rfl rfl dL_law_482 ?_
      refine V_aload_n 0 rfl rfl dL_law_483 ?_
      refine V_iload_n 3 rfl rfl dL_law_484 ?_
      refine V_iconst dL_law_485 ?_
      refine V_iadd dL_law_486 ?_
      obtain ⟨g135, h⟩ := h
      refine V_sld hcN g135 dL_law_487 ?_
      refine V_aload_n 0 rfl rfl dL_law_488 ?_
      refine V_iload_n 3 rfl rfl dL_law_489 ?_
      refine V_iconst dL_law_490 ?_
      refine V_iadd dL_law_491 ?_
      obtain ⟨g136, h⟩ := h
      refine V_sld hcN g136 dL_law_492 ?_
      refine V_cV (M' := mX12_kept) (As := [.int (gI ((cxS X ((v3 + 1).toNat)).toInt)), .int (gI ((cxS X ((v3 + 2).toNat)).toInt))]) (fun r => [.int (gI r), .int (gI r132)]) ok_X12_kept ok2_X12_kept sh_69 rfl (by decide) rfl rfl (Nat.le_of_ble_eq_true rfl) dL_law_493 lk_RL_m64 (by decide) (fun _ => rfl) h (fun r137 σ138 h => ?_)
      refine V_rng (fun hR139 => ?_)
      have h := h hR139
      refine V_icmp_eqG (tgt := 853) dL_law_496 (by decide) (fun q142 => ?_) (fun q142 => ?_)
      · have h := h.1 q142
        exact h
      · have h := h.2 q142
        refine V_iconst dL_law_499 ?_
        exact V_iret rfl (fun _ q => by cases q) (by decide) dL_law_500 h
    · have h := h.2.2.2.2.2.2.2.2.2.2.2.1 q5
      refine V_tsw (tgt := 501) (off := 469) dL_law_32 (inI_z _) (by omega) (by omega) (by rw [q5]; rfl) (by decide) ?_
      refine V_aload_n 1 rfl rfl dL_law_501 ?_
      refine V_aload_n 0 rfl rfl dL_law_502 ?_
      refine V_iload_n 3 rfl rfl dL_law_503 ?_
      refine V_iconst dL_law_504 ?_
      refine V_iadd dL_law_505 ?_
      obtain ⟨g143, h⟩ := h
      refine V_sld hcN g143 dL_law_506 ?_
      refine V_aload_n 0 rfl rfl dL_law_507 ?_
      refine V_iload_n 3 rfl rfl dL_law_508 ?_
      refine V_iconst dL_law_509 ?_
      refine V_iadd dL_law_510 ?_
      obtain ⟨g144, h⟩ := h
      refine V_sld hcN g144 dL_law_511 ?_
      refine V_aload_n 0 rfl rfl dL_law_512 ?_
      refine V_iload_n 3 rfl rfl dL_law_513 ?_
      refine V_iconst dL_law_514 ?_
      refine V_iadd dL_law_515 ?_
      obtain ⟨g145, h⟩ := h
      refine V_sld hcN g145 dL_law_516 ?_
      refine V_cV (M' := mX11_cheapest) (As := [.int (gI ((cxS X ((v3 + 1).toNat)).toInt)), .int (gI ((cxS X ((v3 + 2).toNat)).toInt)), .int (gI ((cxS X ((v3 + 3).toNat)).toInt))]) (fun r => [.int (gI r)]) ok_X11_cheapest ok2_X11_cheapest sh_0 rfl (by decide) rfl rfl (Nat.le_of_ble_eq_true rfl) dL_law_517 lk_RL_m65 (by decide) (fun _ => rfl) h (fun r146 σ147 h => ?_)
      refine V_rng (fun hR148 => ?_)
      have h := h hR148
      refine V_aload_n 2 rfl rfl dL_law_520 ?_
      refine V_aload_n 0 rfl rfl dL_law_521 ?_
      refine V_iload_n 3 rfl rfl dL_law_522 ?_
      refine V_iconst dL_law_523 ?_
      refine V_iadd dL_law_524 ?_
      obtain ⟨g149, h⟩ := h
      refine V_sld hcN g149 dL_law_525 ?_
      refine V_aload_n 0 rfl rfl dL_law_526 ?_
      refine V_iload_n 3 rfl rfl dL_law_527 ?_
      refine V_iconst dL_law_528 ?_
      refine V_iadd dL_law_529 ?_
      obtain ⟨g150, h⟩ := h
      refine V_sld hcN g150 dL_law_530 ?_
      refine V_aload_n 0 rfl rfl dL_law_531 ?_
      refine V_iload_n 3 rfl rfl dL_law_532 ?_
      refine V_iconst dL_law_533 ?_
      refine V_iadd dL_law_534 ?_
      obtain ⟨g151, h⟩ := h
      refine V_sld hcN g151 dL_law_535 ?_
      refine V_cV (M' := mX12_cheapest) (As := [.int (gI ((cxS X ((v3 + 1).toNat)).toInt)), .int (gI ((cxS X ((v3 + 2).toNat)).toInt)), .int (gI ((cxS X ((v3 + 3).toNat)).toInt))]) (fun r => [.int (gI r), .int (gI r146)]) ok_X12_cheapest ok2_X12_cheapest sh_69 rfl (by decide) rfl rfl (Nat.le_of_ble_eq_true rfl) dL_law_536 lk_RL_m68 (by decide) (fun _ => rfl) h (fun r152 σ153 h => ?_)
      refine V_rng (fun hR154 => ?_)
      have h := h hR154
      refine V_icmp_eqG (tgt := 853) dL_law_539 (by decide) (fun q157 => ?_) (fun q157 => ?_)
      · have h := h.1 q157
        exact h
      · have h := h.2 q157
        refine V_iconst dL_law_542 ?_
        exact V_iret rfl (fun _ q => by cases q) (by decide) dL_law_543 h
    · have h := h.2.2.2.2.2.2.2.2.2.2.2.2.1 q5
      refine V_tsw (tgt := 544) (off := 512) dL_law_32 (inI_z _) (by omega) (by omega) (by rw [q5]; rfl) (by decide) ?_
      refine V_aload_n 1 rfl rfl dL_law_544 ?_
      refine V_aload_n 0 rfl rfl dL_law_545 ?_
      refine V_iload_n 3 rfl rfl dL_law_546 ?_
      refine V_iconst dL_law_547 ?_
      refine V_iadd dL_law_548 ?_
      obtain ⟨g158, h⟩ := h
      refine V_sld hcN g158 dL_law_549 ?_
      refine V_cV (M' := mX11_sets) (As := [.int (gI ((cxS X ((v3 + 1).toNat)).toInt))]) (fun r => [.int (gI r)]) ok_X11_sets ok2_X11_sets sh_0 rfl (by decide) rfl rfl (Nat.le_of_ble_eq_true rfl) dL_law_550 lk_RL_m69 (by decide) (fun _ => rfl) h (fun r159 σ160 h => ?_)
      refine V_rng (fun hR161 => ?_)
      have h := h hR161
      refine V_aload_n 2 rfl rfl dL_law_553 ?_
      refine V_aload_n 0 rfl rfl dL_law_554 ?_
      refine V_iload_n 3 rfl rfl dL_law_555 ?_
      refine V_iconst dL_law_556 ?_
      refine V_iadd dL_law_557 ?_
      obtain ⟨g162, h⟩ := h
      refine V_sld hcN g162 dL_law_558 ?_
      refine V_cV (M' := mX12_sets) (As := [.int (gI ((cxS X ((v3 + 1).toNat)).toInt))]) (fun r => [.int (gI r), .int (gI r159)]) ok_X12_sets ok2_X12_sets sh_69 rfl (by decide) rfl rfl (Nat.le_of_ble_eq_true rfl) dL_law_559 lk_RL_m72 (by decide) (fun _ => rfl) h (fun r163 σ164 h => ?_)
      refine V_rng (fun hR165 => ?_)
      have h := h hR165
      refine V_icmp_eqG (tgt := 853) dL_law_562 (by decide) (fun q168 => ?_) (fun q168 => ?_)
      · have h := h.1 q168
        exact h
      · have h := h.2 q168
        refine V_iconst dL_law_565 ?_
        exact V_iret rfl (fun _ q => by cases q) (by decide) dL_law_566 h
    · have h := h.2.2.2.2.2.2.2.2.2.2.2.2.2.1 q5
      refine V_tsw (tgt := 567) (off := 535) dL_law_32 (inI_z _) (by omega) (by omega) (by rw [q5]; rfl) (by decide) ?_
      refine V_aload_n 1 rfl rfl dL_law_567 ?_
      refine V_aload_n 0 rfl rfl dL_law_568 ?_
      refine V_iload_n 3 rfl rfl dL_law_569 ?_
      refine V_iconst dL_law_570 ?_
      refine V_iadd dL_law_571 ?_
      obtain ⟨g169, h⟩ := h
      refine V_sld hcN g169 dL_law_572 ?_
      refine V_cV (M' := mX11_quick) (As := [.int (gI ((cxS X ((v3 + 1).toNat)).toInt))]) (fun r => [.int (gI r)]) ok_X11_quick ok2_X11_quick sh_0 rfl (by decide) rfl rfl (Nat.le_of_ble_eq_true rfl) dL_law_573 lk_RL_m73 (by decide) (fun _ => rfl) h (fun r170 σ171 h => ?_)
      refine V_rng (fun hR172 => ?_)
      have h := h hR172
      refine V_aload_n 2 rfl rfl dL_law_576 ?_
      refine V_aload_n 0 rfl rfl dL_law_577 ?_
      refine V_iload_n 3 rfl rfl dL_law_578 ?_
      refine V_iconst dL_law_579 ?_
      refine V_iadd dL_law_580 ?_
      obtain ⟨g173, h⟩ := h
      refine V_sld hcN g173 dL_law_581 ?_
      refine V_cV (M' := mX12_quick) (As := [.int (gI ((cxS X ((v3 + 1).toNat)).toInt))]) (fun r => [.int (gI r), .int (gI r170)]) ok_X12_quick ok2_X12_quick sh_69 rfl (by decide) rfl rfl (Nat.le_of_ble_eq_true rfl) dL_law_582 lk_RL_m76 (by decide) (fun _ => rfl) h (fun r174 σ175 h => ?_)
      refine V_rng (fun hR176 => ?_)
      have h := h hR176
      refine V_icmp_eqG (tgt := 853) dL_law_585 (by decide) (fun q179 => ?_) (fun q179 => ?_)
      · have h := h.1 q179
        exact h
      · have h := h.2 q179
        refine V_iconst dL_law_588 ?_
        exact V_iret rfl (fun _ q => by cases q) (by decide) dL_law_589 h
    · have h := h.2.2.2.2.2.2.2.2.2.2.2.2.2.2.1 q5
      refine V_tsw (tgt := 590) (off := 558) dL_law_32 (inI_z _) (by omega) (by omega) (by rw [q5]; rfl) (by decide) ?_
      refine V_aload_n 1 rfl rfl dL_law_590 ?_
      refine V_aload_n 0 rfl rfl dL_law_591 ?_
      refine V_iload_n 3 rfl rfl dL_law_592 ?_
      refine V_iconst dL_law_593 ?_
      refine V_iadd dL_law_594 ?_
      obtain ⟨g180, h⟩ := h
      refine V_sld hcN g180 dL_law_595 ?_
      refine V_aload_n 0 rfl rfl dL_law_596 ?_
      refine V_iload_n 3 rfl rfl dL_law_597 ?_
      refine V_iconst dL_law_598 ?_
      refine V_iadd dL_law_599 ?_
      obtain ⟨g181, h⟩ := h
      refine V_sld hcN g181 dL_law_600 ?_
      refine V_cV (M' := mX11_twin) (As := [.int (gI ((cxS X ((v3 + 1).toNat)).toInt)), .int (gI ((cxS X ((v3 + 2).toNat)).toInt))]) (fun r => [.int (gI r)]) ok_X11_twin ok2_X11_twin sh_0 rfl (by decide) rfl rfl (Nat.le_of_ble_eq_true rfl) dL_law_601 lk_RL_m77 (by decide) (fun _ => rfl) h (fun r182 σ183 h => ?_)
      refine V_rng (fun hR184 => ?_)
      have h := h hR184
      refine V_aload_n 2 rfl rfl dL_law_604 ?_
      refine V_aload_n 0 rfl rfl dL_law_605 ?_
      refine V_iload_n 3 rfl rfl dL_law_606 ?_
      refine V_iconst dL_law_607 ?_
      refine V_iadd dL_law_608 ?_
      obtain ⟨g185, h⟩ := h
      refine V_sld hcN g185 dL_law_609 ?_
      refine V_aload_n 0 rfl rfl dL_law_610 ?_
      refine V_iload_n 3 rfl rfl dL_law_611 ?_
      refine V_iconst dL_law_612 ?_
      refine V_iadd dL_law_613 ?_
      obtain ⟨g186, h⟩ := h
      refine V_sld hcN g186 dL_law_614 ?_
      refine V_cV (M' := mX12_twin) (As := [.int (gI ((cxS X ((v3 + 1).toNat)).toInt)), .int (gI ((cxS X ((v3 + 2).toNat)).toInt))]) (fun r => [.int (gI r), .int (gI r182)]) ok_X12_twin ok2_X12_twin sh_69 rfl (by decide) rfl rfl (Nat.le_of_ble_eq_true rfl) dL_law_615 lk_RL_m80 (by decide) (fun _ => rfl) h (fun r187 σ188 h => ?_)
      refine V_rng (fun hR189 => ?_)
      have h := h hR189
      refine V_icmp_eqG (tgt := 853) dL_law_618 (by decide) (fun q192 => ?_) (fun q192 => ?_)
      · have h := h.1 q192
        exact h
      · have h := h.2 q192
        refine V_iconst dL_law_621 ?_
        exact V_iret rfl (fun _ q => by cases q) (by decide) dL_law_622 h
    · have h := h.2.2.2.2.2.2.2.2.2.2.2.2.2.2.2.1 q5
      refine V_tsw (tgt := 623) (off := 591) dL_law_32 (inI_z _) (by omega) (by omega) (by rw [q5]; rfl) (by decide) ?_
      refine V_aload_n 1 rfl rfl dL_law_623 ?_
      refine V_cV (M' := mX11_breaks) (As := []) (fun r => [.int (gI r)]) ok_X11_breaks ok2_X11_breaks sh_0 rfl (by decide) rfl rfl (Nat.le_of_ble_eq_true rfl) dL_law_624 lk_RL_m81 (by decide) (fun _ => rfl) h (fun r193 σ194 h => ?_)
      refine V_rng (fun hR195 => ?_)
      have h := h hR195
      refine V_aload_n 2 rfl rfl dL_law_627 ?_
      refine V_cV (M' := mX12_breaks) (As := []) (fun r => [.int (gI r), .int (gI r193)]) ok_X12_breaks ok2_X12_breaks sh_69 rfl (by decide) rfl rfl (Nat.le_of_ble_eq_true rfl) dL_law_628 lk_RL_m84 (by decide) (fun _ => rfl) h (fun r196 σ197 h => ?_)
      refine V_rng (fun hR198 => ?_)
      have h := h hR198
      refine V_icmp_eqG (tgt := 853) dL_law_631 (by decide) (fun q201 => ?_) (fun q201 => ?_)
      · have h := h.1 q201
        exact h
      · have h := h.2 q201
        refine V_iconst dL_law_634 ?_
        exact V_iret rfl (fun _ q => by cases q) (by decide) dL_law_635 h
    · have h := h.2.2.2.2.2.2.2.2.2.2.2.2.2.2.2.2.1 q5
      refine V_tsw (tgt := 636) (off := 604) dL_law_32 (inI_z _) (by omega) (by omega) (by rw [q5]; rfl) (by decide) ?_
      refine V_aload_n 1 rfl rfl dL_law_636 ?_
      refine V_aload_n 0 rfl rfl dL_law_637 ?_
      refine V_iload_n 3 rfl rfl dL_law_638 ?_
      refine V_iconst dL_law_639 ?_
      refine V_iadd dL_law_640 ?_
      obtain ⟨g202, h⟩ := h
      refine V_sld hcN g202 dL_law_641 ?_
      refine V_aload_n 0 rfl rfl dL_law_642 ?_
      refine V_iload_n 3 rfl rfl dL_law_643 ?_
      refine V_iconst dL_law_644 ?_
      refine V_iadd dL_law_645 ?_
      obtain ⟨g203, h⟩ := h
      refine V_sld hcN g203 dL_law_646 ?_
      refine V_cV (M' := mX11_hears) (As := [.int (gI ((cxS X ((v3 + 1).toNat)).toInt)), .int (gI ((cxS X ((v3 + 2).toNat)).toInt))]) (fun r => [.int (gI r)]) ok_X11_hears ok2_X11_hears sh_0 rfl (by decide) rfl rfl (Nat.le_of_ble_eq_true rfl) dL_law_647 lk_RL_m85 (by decide) (fun _ => rfl) h (fun r204 σ205 h => ?_)
      refine V_rng (fun hR206 => ?_)
      have h := h hR206
      refine V_aload_n 2 rfl rfl dL_law_650 ?_
      refine V_aload_n 0 rfl rfl dL_law_651 ?_
      refine V_iload_n 3 rfl rfl dL_law_652 ?_
      refine V_iconst dL_law_653 ?_
      refine V_iadd dL_law_654 ?_
      obtain ⟨g207, h⟩ := h
      refine V_sld hcN g207 dL_law_655 ?_
      refine V_aload_n 0 rfl rfl dL_law_656 ?_
      refine V_iload_n 3 rfl rfl dL_law_657 ?_
      refine V_iconst dL_law_658 ?_
      refine V_iadd dL_law_659 ?_
      obtain ⟨g208, h⟩ := h
      refine V_sld hcN g208 dL_law_660 ?_
      refine V_cV (M' := mX12_hears) (As := [.int (gI ((cxS X ((v3 + 1).toNat)).toInt)), .int (gI ((cxS X ((v3 + 2).toNat)).toInt))]) (fun r => [.int (gI r), .int (gI r204)]) ok_X12_hears ok2_X12_hears sh_69 rfl (by decide) rfl rfl (Nat.le_of_ble_eq_true rfl) dL_law_661 lk_RL_m88 (by decide) (fun _ => rfl) h (fun r209 σ210 h => ?_)
      refine V_rng (fun hR211 => ?_)
      have h := h hR211
      refine V_icmp_eqG (tgt := 853) dL_law_664 (by decide) (fun q214 => ?_) (fun q214 => ?_)
      · have h := h.1 q214
        exact h
      · have h := h.2 q214
        refine V_iconst dL_law_667 ?_
        exact V_iret rfl (fun _ q => by cases q) (by decide) dL_law_668 h
    · have h := h.2.2.2.2.2.2.2.2.2.2.2.2.2.2.2.2.2.1 q5
      refine V_tsw (tgt := 669) (off := 637) dL_law_32 (inI_z _) (by omega) (by omega) (by rw [q5]; rfl) (by decide) ?_
      refine V_aload_n 1 rfl rfl dL_law_669 ?_
      refine V_aload_n 0 rfl rfl dL_law_670 ?_
      refine V_iload_n 3 rfl rfl dL_law_671 ?_
      refine V_iconst dL_law_672 ?_
      refine V_iadd dL_law_673 ?_
      obtain ⟨g215, h⟩ := h
      refine V_sld hcN g215 dL_law_674 ?_
      refine V_aload_n 0 rfl rfl dL_law_675 ?_
      refine V_iload_n 3 rfl rfl dL_law_676 ?_
      refine V_iconst dL_law_677 ?_
      refine V_iadd dL_law_678 ?_
      obtain ⟨g216, h⟩ := h
      refine V_sld hcN g216 dL_law_679 ?_
      refine V_cV (M' := mX11_tells) (As := [.int (gI ((cxS X ((v3 + 1).toNat)).toInt)), .int (gI ((cxS X ((v3 + 2).toNat)).toInt))]) (fun r => [.int (gI r)]) ok_X11_tells ok2_X11_tells sh_0 rfl (by decide) rfl rfl (Nat.le_of_ble_eq_true rfl) dL_law_680 lk_RL_m89 (by decide) (fun _ => rfl) h (fun r217 σ218 h => ?_)
      refine V_rng (fun hR219 => ?_)
      have h := h hR219
      refine V_aload_n 2 rfl rfl dL_law_683 ?_
      refine V_aload_n 0 rfl rfl dL_law_684 ?_
      refine V_iload_n 3 rfl rfl dL_law_685 ?_
      refine V_iconst dL_law_686 ?_
      refine V_iadd dL_law_687 ?_
      obtain ⟨g220, h⟩ := h
      refine V_sld hcN g220 dL_law_688 ?_
      refine V_aload_n 0 rfl rfl dL_law_689 ?_
      refine V_iload_n 3 rfl rfl dL_law_690 ?_
      refine V_iconst dL_law_691 ?_
      refine V_iadd dL_law_692 ?_
      obtain ⟨g221, h⟩ := h
      refine V_sld hcN g221 dL_law_693 ?_
      refine V_cV (M' := mX12_tells) (As := [.int (gI ((cxS X ((v3 + 1).toNat)).toInt)), .int (gI ((cxS X ((v3 + 2).toNat)).toInt))]) (fun r => [.int (gI r), .int (gI r217)]) ok_X12_tells ok2_X12_tells sh_69 rfl (by decide) rfl rfl (Nat.le_of_ble_eq_true rfl) dL_law_694 lk_RL_m92 (by decide) (fun _ => rfl) h (fun r222 σ223 h => ?_)
      refine V_rng (fun hR224 => ?_)
      have h := h hR224
      refine V_icmp_eqG (tgt := 853) dL_law_697 (by decide) (fun q227 => ?_) (fun q227 => ?_)
      · have h := h.1 q227
        exact h
      · have h := h.2 q227
        refine V_iconst dL_law_700 ?_
        exact V_iret rfl (fun _ q => by cases q) (by decide) dL_law_701 h
    · have h := h.2.2.2.2.2.2.2.2.2.2.2.2.2.2.2.2.2.2.1 q5
      refine V_tsw (tgt := 702) (off := 670) dL_law_32 (inI_z _) (by omega) (by omega) (by rw [q5]; rfl) (by decide) ?_
      refine V_aload_n 1 rfl rfl dL_law_702 ?_
      refine V_cV (M' := mX11_ends) (As := []) (fun r => [.int (gI r)]) ok_X11_ends ok2_X11_ends sh_0 rfl (by decide) rfl rfl (Nat.le_of_ble_eq_true rfl) dL_law_703 lk_RL_m93 (by decide) (fun _ => rfl) h (fun r228 σ229 h => ?_)
      refine V_rng (fun hR230 => ?_)
      have h := h hR230
      refine V_aload_n 2 rfl rfl dL_law_706 ?_
      refine V_cV (M' := mX12_ends) (As := []) (fun r => [.int (gI r), .int (gI r228)]) ok_X12_ends ok2_X12_ends sh_69 rfl (by decide) rfl rfl (Nat.le_of_ble_eq_true rfl) dL_law_707 lk_RL_m96 (by decide) (fun _ => rfl) h (fun r231 σ232 h => ?_)
      refine V_rng (fun hR233 => ?_)
      have h := h hR233
      refine V_icmp_eqG (tgt := 853) dL_law_710 (by decide) (fun q236 => ?_) (fun q236 => ?_)
      · have h := h.1 q236
        exact h
      · have h := h.2 q236
        refine V_iconst dL_law_713 ?_
        exact V_iret rfl (fun _ q => by cases q) (by decide) dL_law_714 h
    · have h := h.2.2.2.2.2.2.2.2.2.2.2.2.2.2.2.2.2.2.2.1 q5
      refine V_tsw (tgt := 715) (off := 683) dL_law_32 (inI_z _) (by omega) (by omega) (by rw [q5]; rfl) (by decide) ?_
      refine V_aload_n 1 rfl rfl dL_law_715 ?_
      refine V_aload_n 0 rfl rfl dL_law_716 ?_
      refine V_iload_n 3 rfl rfl dL_law_717 ?_
      refine V_iconst dL_law_718 ?_
      refine V_iadd dL_law_719 ?_
      obtain ⟨g237, h⟩ := h
      refine V_sld hcN g237 dL_law_720 ?_
      refine V_cV (M' := mX11_wrong) (As := [.int (gI ((cxS X ((v3 + 1).toNat)).toInt))]) (fun r => [.int (gI r)]) ok_X11_wrong ok2_X11_wrong sh_0 rfl (by decide) rfl rfl (Nat.le_of_ble_eq_true rfl) dL_law_721 lk_RL_m97 (by decide) (fun _ => rfl) h (fun r238 σ239 h => ?_)
      refine V_rng (fun hR240 => ?_)
      have h := h hR240
      refine V_aload_n 2 rfl rfl dL_law_724 ?_
      refine V_aload_n 0 rfl rfl dL_law_725 ?_
      refine V_iload_n 3 rfl rfl dL_law_726 ?_
      refine V_iconst dL_law_727 ?_
      refine V_iadd dL_law_728 ?_
      obtain ⟨g241, h⟩ := h
      refine V_sld hcN g241 dL_law_729 ?_
      refine V_cV (M' := mX12_wrong) (As := [.int (gI ((cxS X ((v3 + 1).toNat)).toInt))]) (fun r => [.int (gI r), .int (gI r238)]) ok_X12_wrong ok2_X12_wrong sh_69 rfl (by decide) rfl rfl (Nat.le_of_ble_eq_true rfl) dL_law_730 lk_RL_m100 (by decide) (fun _ => rfl) h (fun r242 σ243 h => ?_)
      refine V_rng (fun hR244 => ?_)
      have h := h hR244
      refine V_icmp_eqG (tgt := 853) dL_law_733 (by decide) (fun q247 => ?_) (fun q247 => ?_)
      · have h := h.1 q247
        exact h
      · have h := h.2 q247
        refine V_iconst dL_law_736 ?_
        exact V_iret rfl (fun _ q => by cases q) (by decide) dL_law_737 h
    · have h := h.2.2.2.2.2.2.2.2.2.2.2.2.2.2.2.2.2.2.2.2.1 q5
      refine V_tsw (tgt := 738) (off := 706) dL_law_32 (inI_z _) (by omega) (by omega) (by rw [q5]; rfl) (by decide) ?_
      refine V_aload_n 1 rfl rfl dL_law_738 ?_
      refine V_aload_n 0 rfl rfl dL_law_739 ?_
      refine V_iload_n 3 rfl rfl dL_law_740 ?_
      refine V_iconst dL_law_741 ?_
      refine V_iadd dL_law_742 ?_
      obtain ⟨g248, h⟩ := h
      refine V_sld hcN g248 dL_law_743 ?_
      refine V_cV (M' := mX11_name) (As := [.int (gI ((cxS X ((v3 + 1).toNat)).toInt))]) (fun r => [.int (gI r)]) ok_X11_name ok2_X11_name sh_0 rfl (by decide) rfl rfl (Nat.le_of_ble_eq_true rfl) dL_law_744 lk_RL_m101 (by decide) (fun _ => rfl) h (fun r249 σ250 h => ?_)
      refine V_rng (fun hR251 => ?_)
      have h := h hR251
      refine V_aload_n 2 rfl rfl dL_law_747 ?_
      refine V_aload_n 0 rfl rfl dL_law_748 ?_
      refine V_iload_n 3 rfl rfl dL_law_749 ?_
      refine V_iconst dL_law_750 ?_
      refine V_iadd dL_law_751 ?_
      obtain ⟨g252, h⟩ := h
      refine V_sld hcN g252 dL_law_752 ?_
      refine V_cV (M' := mX12_name) (As := [.int (gI ((cxS X ((v3 + 1).toNat)).toInt))]) (fun r => [.int (gI r), .int (gI r249)]) ok_X12_name ok2_X12_name sh_69 rfl (by decide) rfl rfl (Nat.le_of_ble_eq_true rfl) dL_law_753 lk_RL_m104 (by decide) (fun _ => rfl) h (fun r253 σ254 h => ?_)
      refine V_rng (fun hR255 => ?_)
      have h := h hR255
      refine V_icmp_eqG (tgt := 853) dL_law_756 (by decide) (fun q258 => ?_) (fun q258 => ?_)
      · have h := h.1 q258
        exact h
      · have h := h.2 q258
        refine V_iconst dL_law_759 ?_
        exact V_iret rfl (fun _ q => by cases q) (by decide) dL_law_760 h
    · have h := h.2.2.2.2.2.2.2.2.2.2.2.2.2.2.2.2.2.2.2.2.2.1 q5
      refine V_tsw (tgt := 761) (off := 729) dL_law_32 (inI_z _) (by omega) (by omega) (by rw [q5]; rfl) (by decide) ?_
      refine V_aload_n 1 rfl rfl dL_law_761 ?_
      refine V_cV (M' := mX11_hush) (As := []) (fun r => [.int (gI r)]) ok_X11_hush ok2_X11_hush sh_0 rfl (by decide) rfl rfl (Nat.le_of_ble_eq_true rfl) dL_law_762 lk_RL_m105 (by decide) (fun _ => rfl) h (fun r259 σ260 h => ?_)
      refine V_rng (fun hR261 => ?_)
      have h := h hR261
      refine V_aload_n 2 rfl rfl dL_law_765 ?_
      refine V_cV (M' := mX12_hush) (As := []) (fun r => [.int (gI r), .int (gI r259)]) ok_X12_hush ok2_X12_hush sh_69 rfl (by decide) rfl rfl (Nat.le_of_ble_eq_true rfl) dL_law_766 lk_RL_m108 (by decide) (fun _ => rfl) h (fun r262 σ263 h => ?_)
      refine V_rng (fun hR264 => ?_)
      have h := h hR264
      refine V_icmp_eqG (tgt := 853) dL_law_769 (by decide) (fun q267 => ?_) (fun q267 => ?_)
      · have h := h.1 q267
        exact h
      · have h := h.2 q267
        refine V_iconst dL_law_772 ?_
        exact V_iret rfl (fun _ q => by cases q) (by decide) dL_law_773 h
    · have h := h.2.2.2.2.2.2.2.2.2.2.2.2.2.2.2.2.2.2.2.2.2.2.1 q5
      refine V_tsw (tgt := 774) (off := 742) dL_law_32 (inI_z _) (by omega) (by omega) (by rw [q5]; rfl) (by decide) ?_
      refine V_aload_n 1 rfl rfl dL_law_774 ?_
      refine V_aload_n 0 rfl rfl dL_law_775 ?_
      refine V_iload_n 3 rfl rfl dL_law_776 ?_
      refine V_iconst dL_law_777 ?_
      refine V_iadd dL_law_778 ?_
      obtain ⟨g268, h⟩ := h
      refine V_sld hcN g268 dL_law_779 ?_
      refine V_cV (M' := mX11_talk) (As := [.int (gI ((cxS X ((v3 + 1).toNat)).toInt))]) (fun r => [.int (gI r)]) ok_X11_talk ok2_X11_talk sh_0 rfl (by decide) rfl rfl (Nat.le_of_ble_eq_true rfl) dL_law_780 lk_RL_m109 (by decide) (fun _ => rfl) h (fun r269 σ270 h => ?_)
      refine V_rng (fun hR271 => ?_)
      have h := h hR271
      refine V_aload_n 2 rfl rfl dL_law_783 ?_
      refine V_aload_n 0 rfl rfl dL_law_784 ?_
      refine V_iload_n 3 rfl rfl dL_law_785 ?_
      refine V_iconst dL_law_786 ?_
      refine V_iadd dL_law_787 ?_
      obtain ⟨g272, h⟩ := h
      refine V_sld hcN g272 dL_law_788 ?_
      refine V_cV (M' := mX12_talk) (As := [.int (gI ((cxS X ((v3 + 1).toNat)).toInt))]) (fun r => [.int (gI r), .int (gI r269)]) ok_X12_talk ok2_X12_talk sh_69 rfl (by decide) rfl rfl (Nat.le_of_ble_eq_true rfl) dL_law_789 lk_RL_m112 (by decide) (fun _ => rfl) h (fun r273 σ274 h => ?_)
      refine V_rng (fun hR275 => ?_)
      have h := h hR275
      refine V_icmp_eqG (tgt := 853) dL_law_792 (by decide) (fun q278 => ?_) (fun q278 => ?_)
      · have h := h.1 q278
        exact h
      · have h := h.2 q278
        refine V_iconst dL_law_795 ?_
        exact V_iret rfl (fun _ q => by cases q) (by decide) dL_law_796 h
    · have h := h.2.2.2.2.2.2.2.2.2.2.2.2.2.2.2.2.2.2.2.2.2.2.2.1 q5
      refine V_tsw (tgt := 797) (off := 765) dL_law_32 (inI_z _) (by omega) (by omega) (by rw [q5]; rfl) (by decide) ?_
      refine V_aload_n 1 rfl rfl dL_law_797 ?_
      refine V_aload_n 0 rfl rfl dL_law_798 ?_
      refine V_iload_n 3 rfl rfl dL_law_799 ?_
      refine V_iconst dL_law_800 ?_
      refine V_iadd dL_law_801 ?_
      obtain ⟨g279, h⟩ := h
      refine V_sld hcN g279 dL_law_802 ?_
      refine V_aload_n 0 rfl rfl dL_law_803 ?_
      refine V_iload_n 3 rfl rfl dL_law_804 ?_
      refine V_iconst dL_law_805 ?_
      refine V_iadd dL_law_806 ?_
      obtain ⟨g280, h⟩ := h
      refine V_sld hcN g280 dL_law_807 ?_
      refine V_cV (M' := mX11_worth) (As := [.int (gI ((cxS X ((v3 + 1).toNat)).toInt)), .int (gI ((cxS X ((v3 + 2).toNat)).toInt))]) (fun r => [.int (gI r)]) ok_X11_worth ok2_X11_worth sh_0 rfl (by decide) rfl rfl (Nat.le_of_ble_eq_true rfl) dL_law_808 lk_RL_m113 (by decide) (fun _ => rfl) h (fun r281 σ282 h => ?_)
      refine V_rng (fun hR283 => ?_)
      have h := h hR283
      refine V_aload_n 2 rfl rfl dL_law_811 ?_
      refine V_aload_n 0 rfl rfl dL_law_812 ?_
      refine V_iload_n 3 rfl rfl dL_law_813 ?_
      refine V_iconst dL_law_814 ?_
      refine V_iadd dL_law_815 ?_
      obtain ⟨g284, h⟩ := h
      refine V_sld hcN g284 dL_law_816 ?_
      refine V_aload_n 0 rfl rfl dL_law_817 ?_
      refine V_iload_n 3 rfl rfl dL_law_818 ?_
      refine V_iconst dL_law_819 ?_
      refine V_iadd dL_law_820 ?_
      obtain ⟨g285, h⟩ := h
      refine V_sld hcN g285 dL_law_821 ?_
      refine V_cV (M' := mX12_worth) (As := [.int (gI ((cxS X ((v3 + 1).toNat)).toInt)), .int (gI ((cxS X ((v3 + 2).toNat)).toInt))]) (fun r => [.int (gI r), .int (gI r281)]) ok_X12_worth ok2_X12_worth sh_69 rfl (by decide) rfl rfl (Nat.le_of_ble_eq_true rfl) dL_law_822 lk_RL_m116 (by decide) (fun _ => rfl) h (fun r286 σ287 h => ?_)
      refine V_rng (fun hR288 => ?_)
      have h := h hR288
      refine V_icmp_eqG (tgt := 853) dL_law_825 (by decide) (fun q291 => ?_) (fun q291 => ?_)
      · have h := h.1 q291
        exact h
      · have h := h.2 q291
        refine V_iconst dL_law_828 ?_
        exact V_iret rfl (fun _ q => by cases q) (by decide) dL_law_829 h
    · have h := h.2.2.2.2.2.2.2.2.2.2.2.2.2.2.2.2.2.2.2.2.2.2.2.2.1 q5
      refine V_tsw (tgt := 830) (off := 798) dL_law_32 (inI_z _) (by omega) (by omega) (by rw [q5]; rfl) (by decide) ?_
      refine V_aload_n 1 rfl rfl dL_law_830 ?_
      refine V_aload_n 0 rfl rfl dL_law_831 ?_
      refine V_iload_n 3 rfl rfl dL_law_832 ?_
      refine V_iconst dL_law_833 ?_
      refine V_iadd dL_law_834 ?_
      obtain ⟨g292, h⟩ := h
      refine V_sld hcN g292 dL_law_835 ?_
      refine V_cV (M' := mX11_count) (As := [.int (gI ((cxS X ((v3 + 1).toNat)).toInt))]) (fun r => [.int (gI r)]) ok_X11_count ok2_X11_count sh_0 rfl (by decide) rfl rfl (Nat.le_of_ble_eq_true rfl) dL_law_836 lk_RL_m117 (by decide) (fun _ => rfl) h (fun r293 σ294 h => ?_)
      refine V_rng (fun hR295 => ?_)
      have h := h hR295
      refine V_aload_n 2 rfl rfl dL_law_839 ?_
      refine V_aload_n 0 rfl rfl dL_law_840 ?_
      refine V_iload_n 3 rfl rfl dL_law_841 ?_
      refine V_iconst dL_law_842 ?_
      refine V_iadd dL_law_843 ?_
      obtain ⟨g296, h⟩ := h
      refine V_sld hcN g296 dL_law_844 ?_
      refine V_cV (M' := mX12_count) (As := [.int (gI ((cxS X ((v3 + 1).toNat)).toInt))]) (fun r => [.int (gI r), .int (gI r293)]) ok_X12_count ok2_X12_count sh_69 rfl (by decide) rfl rfl (Nat.le_of_ble_eq_true rfl) dL_law_845 lk_RL_m120 (by decide) (fun _ => rfl) h (fun r297 σ298 h => ?_)
      refine V_rng (fun hR299 => ?_)
      have h := h hR299
      refine V_icmp_eqG (tgt := 853) dL_law_848 (by decide) (fun q302 => ?_) (fun q302 => ?_)
      · have h := h.1 q302
        exact h
      · have h := h.2 q302
        refine V_iconst dL_law_851 ?_
        exact V_iret rfl (fun _ q => by cases q) (by decide) dL_law_852 h
    · have h := h.2.2.2.2.2.2.2.2.2.2.2.2.2.2.2.2.2.2.2.2.2.2.2.2.2 q5
      refine V_tswD (tgt := 853) dL_law_32 (inI_z _) (by omega) (by decide) ?_
      exact h
set_option maxHeartbeats 2000000 in
set_option maxRecDepth 20000 in
theorem rLw_853 {X : Cx} {v3 : Int} (hcN : cxN X < 2147483648) {σ : Sg} {Q : Int → Sg → Prop} (h : Rng σ → GLw_18 X (v3 + 5) σ Q) : GLw_853 X v3 σ Q := by
  unfold GLw_853
  refine V_rng (fun hR0 => ?_)
  have h := h hR0
  refine V_iinc (L' := [(3, .int (gI (v3 + 5))), (0, .ref (cxB X)), (1, .ref (cxA X 0)), (2, .ref (cxA X 69))]) 3 rfl (by decide) rfl dL_law_853 ?_
  refine V_goto (tgt := 18) dL_law_856 (by decide) ?_
  exact V_sub [1, 2, 3, 0] rfl h
