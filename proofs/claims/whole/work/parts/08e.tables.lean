theorem tb_1 {w : Cond} (h : w ∈ tables_1_1) : w ∈ lw_tbl := List.mem_append_right _ (List.mem_append_left _ h)
theorem tb_2 {w : Cond} (h : w ∈ tables_1_2) : w ∈ lw_tbl := List.mem_append_right _ (List.mem_append_right _ (List.mem_append_left _ h))
theorem tb_3 {w : Cond} (h : w ∈ tables_1_3) : w ∈ lw_tbl := List.mem_append_right _ (List.mem_append_right _ (List.mem_append_right _ (List.mem_append_left _ h)))
theorem tb_4 {w : Cond} (h : w ∈ tables_1_4) : w ∈ lw_tbl := List.mem_append_right _ (List.mem_append_right _ (List.mem_append_right _ (List.mem_append_right _ (List.mem_append_left _ h))))
theorem tb_5 {w : Cond} (h : w ∈ tables_1_5) : w ∈ lw_tbl := List.mem_append_right _ (List.mem_append_right _ (List.mem_append_right _ (List.mem_append_right _ (List.mem_append_right _ h))))
theorem gm_1 (k : Nat) {w : Cond} (h : tables_1_1[k]? = some w) (hg : goodWord w = true) : w ∈ gdT := List.mem_filter.mpr ⟨tb_1 (List.mem_of_getElem? h), hg⟩
theorem gm_2 (k : Nat) {w : Cond} (h : tables_1_2[k]? = some w) (hg : goodWord w = true) : w ∈ gdT := List.mem_filter.mpr ⟨tb_2 (List.mem_of_getElem? h), hg⟩
theorem gm_3 (k : Nat) {w : Cond} (h : tables_1_3[k]? = some w) (hg : goodWord w = true) : w ∈ gdT := List.mem_filter.mpr ⟨tb_3 (List.mem_of_getElem? h), hg⟩
theorem gm_4 (k : Nat) {w : Cond} (h : tables_1_4[k]? = some w) (hg : goodWord w = true) : w ∈ gdT := List.mem_filter.mpr ⟨tb_4 (List.mem_of_getElem? h), hg⟩
theorem gm_5 (k : Nat) {w : Cond} (h : tables_1_5[k]? = some w) (hg : goodWord w = true) : w ∈ gdT := List.mem_filter.mpr ⟨tb_5 (List.mem_of_getElem? h), hg⟩
theorem gm_s (k : Nat) {w : Cond} (h : (k2_sels lw_privs)[k]? = some w) (hg : goodWord w = true) : w ∈ gdT := List.mem_filter.mpr ⟨List.mem_append_left _ (List.mem_of_getElem? h), hg⟩
