theorem ckG_20 : (List.range 5).all (fun i => ckY (191 + i)) = true := by decide +kernel
theorem ckG_21 : (List.range 6).all (fun i => ckY (196 + i)) = true := by decide +kernel
theorem ckG_22 : (List.range 6).all (fun i => ckY (202 + i)) = true := by decide +kernel
theorem ckG_23 : (List.range 7).all (fun i => ckY (208 + i)) = true := by decide +kernel
theorem ckG_24 : (List.range 11).all (fun i => ckY (215 + i)) = true := by decide +kernel
theorem ckL_0 : ((c_Law_law.drop 0).take 80).all (ckE 226) = true := by decide +kernel
theorem ckL_1 : ((c_Law_law.drop 80).take 80).all (ckE 226) = true := by decide +kernel
theorem ckL_2 : ((c_Law_law.drop 160).take 80).all (ckE 226) = true := by decide +kernel
theorem ckL_3 : ((c_Law_law.drop 240).take 80).all (ckE 226) = true := by decide +kernel
theorem ckL_4 : ((c_Law_law.drop 320).take 80).all (ckE 226) = true := by decide +kernel
theorem ckL_5 : ((c_Law_law.drop 400).take 80).all (ckE 226) = true := by decide +kernel
theorem ckL_6 : ((c_Law_law.drop 480).take 80).all (ckE 226) = true := by decide +kernel
theorem ckL_7 : ((c_Law_law.drop 560).take 80).all (ckE 226) = true := by decide +kernel
theorem ckL_8 : ((c_Law_law.drop 640).take 80).all (ckE 226) = true := by decide +kernel
theorem ckL_9 : ((c_Law_law.drop 720).take 80).all (ckE 226) = true := by decide +kernel
theorem ckL_10 : ((c_Law_law.drop 800).take 80).all (ckE 226) = true := by decide +kernel
theorem ckL_s (n k : Nat) (l : List (Nat × Nat × Instr × Int × List Nat)) (f : (Nat × Nat × Instr × Int × List Nat) → Bool) (h1 : ((l.drop n).take k).all f = true) (h2 : (l.drop (n + k)).all f = true) : (l.drop n).all f = true := by
  rw [← List.take_append_drop k (l.drop n), List.all_append, h1, List.drop_drop, h2]; rfl
theorem ckG_25 : (List.range 1).all (fun i => ckY (226 + i)) = true := by
  have h : c_Law_law.all (ckE 226) = true := (ckL_s 0 80 _ _ ckL_0 (ckL_s 80 80 _ _ ckL_1 (ckL_s 160 80 _ _ ckL_2 (ckL_s 240 80 _ _ ckL_3 (ckL_s 320 80 _ _ ckL_4 (ckL_s 400 80 _ _ ckL_5 (ckL_s 480 80 _ _ ckL_6 (ckL_s 560 80 _ _ ckL_7 (ckL_s 640 80 _ _ ckL_8 (ckL_s 720 80 _ _ ckL_9 (ckL_s 800 80 _ _ ckL_10 (by rw [List.drop_eq_nil_of_le (by decide +kernel)]; rfl))))))))))))
  show (ckY 226 && true) = true
  rw [Bool.and_true]
  exact h
theorem ckG_26 : (List.range 23).all (fun i => ckY (227 + i)) = true := by decide +kernel
theorem ckG_27 : (List.range 10).all (fun i => ckY (250 + i)) = true := by decide +kernel
theorem ckY_all {y : Nat} (h : y < mN) : ckY y = true := by
  unfold mN at h
  by_cases h0 : y < 9
  · have z := List.all_eq_true.mp ckG_0 (y - 0) (List.mem_range.mpr (by omega))
    rwa [show 0 + (y - 0) = y by omega] at z
  by_cases h1 : y < 19
  · have z := List.all_eq_true.mp ckG_1 (y - 9) (List.mem_range.mpr (by omega))
    rwa [show 9 + (y - 9) = y by omega] at z
  by_cases h2 : y < 27
  · have z := List.all_eq_true.mp ckG_2 (y - 19) (List.mem_range.mpr (by omega))
    rwa [show 19 + (y - 19) = y by omega] at z
  by_cases h3 : y < 33
  · have z := List.all_eq_true.mp ckG_3 (y - 27) (List.mem_range.mpr (by omega))
    rwa [show 27 + (y - 27) = y by omega] at z
  by_cases h4 : y < 39
  · have z := List.all_eq_true.mp ckG_4 (y - 33) (List.mem_range.mpr (by omega))
    rwa [show 33 + (y - 33) = y by omega] at z
  by_cases h5 : y < 49
  · have z := List.all_eq_true.mp ckG_5 (y - 39) (List.mem_range.mpr (by omega))
    rwa [show 39 + (y - 39) = y by omega] at z
  by_cases h6 : y < 56
  · have z := List.all_eq_true.mp ckG_6 (y - 49) (List.mem_range.mpr (by omega))
    rwa [show 49 + (y - 49) = y by omega] at z
  by_cases h7 : y < 64
  · have z := List.all_eq_true.mp ckG_7 (y - 56) (List.mem_range.mpr (by omega))
    rwa [show 56 + (y - 56) = y by omega] at z
  by_cases h8 : y < 74
  · have z := List.all_eq_true.mp ckG_8 (y - 64) (List.mem_range.mpr (by omega))
    rwa [show 64 + (y - 64) = y by omega] at z
  by_cases h9 : y < 81
  · have z := List.all_eq_true.mp ckG_9 (y - 74) (List.mem_range.mpr (by omega))
    rwa [show 74 + (y - 74) = y by omega] at z
  by_cases h10 : y < 87
  · have z := List.all_eq_true.mp ckG_10 (y - 81) (List.mem_range.mpr (by omega))
    rwa [show 81 + (y - 81) = y by omega] at z
  by_cases h11 : y < 107
  · have z := List.all_eq_true.mp ckG_11 (y - 87) (List.mem_range.mpr (by omega))
    rwa [show 87 + (y - 87) = y by omega] at z
  by_cases h12 : y < 131
  · have z := List.all_eq_true.mp ckG_12 (y - 107) (List.mem_range.mpr (by omega))
    rwa [show 107 + (y - 107) = y by omega] at z
  by_cases h13 : y < 141
  · have z := List.all_eq_true.mp ckG_13 (y - 131) (List.mem_range.mpr (by omega))
    rwa [show 131 + (y - 131) = y by omega] at z
  by_cases h14 : y < 151
  · have z := List.all_eq_true.mp ckG_14 (y - 141) (List.mem_range.mpr (by omega))
    rwa [show 141 + (y - 141) = y by omega] at z
  by_cases h15 : y < 160
  · have z := List.all_eq_true.mp ckG_15 (y - 151) (List.mem_range.mpr (by omega))
    rwa [show 151 + (y - 151) = y by omega] at z
  by_cases h16 : y < 165
  · have z := List.all_eq_true.mp ckG_16 (y - 160) (List.mem_range.mpr (by omega))
    rwa [show 160 + (y - 160) = y by omega] at z
  by_cases h17 : y < 176
  · have z := List.all_eq_true.mp ckG_17 (y - 165) (List.mem_range.mpr (by omega))
    rwa [show 165 + (y - 165) = y by omega] at z
  by_cases h18 : y < 184
  · have z := List.all_eq_true.mp ckG_18 (y - 176) (List.mem_range.mpr (by omega))
    rwa [show 176 + (y - 176) = y by omega] at z
  by_cases h19 : y < 191
  · have z := List.all_eq_true.mp ckG_19 (y - 184) (List.mem_range.mpr (by omega))
    rwa [show 184 + (y - 184) = y by omega] at z
  by_cases h20 : y < 196
  · have z := List.all_eq_true.mp ckG_20 (y - 191) (List.mem_range.mpr (by omega))
    rwa [show 191 + (y - 191) = y by omega] at z
  by_cases h21 : y < 202
  · have z := List.all_eq_true.mp ckG_21 (y - 196) (List.mem_range.mpr (by omega))
    rwa [show 196 + (y - 196) = y by omega] at z
  by_cases h22 : y < 208
  · have z := List.all_eq_true.mp ckG_22 (y - 202) (List.mem_range.mpr (by omega))
    rwa [show 202 + (y - 202) = y by omega] at z
  by_cases h23 : y < 215
  · have z := List.all_eq_true.mp ckG_23 (y - 208) (List.mem_range.mpr (by omega))
    rwa [show 208 + (y - 208) = y by omega] at z
  by_cases h24 : y < 226
  · have z := List.all_eq_true.mp ckG_24 (y - 215) (List.mem_range.mpr (by omega))
    rwa [show 215 + (y - 215) = y by omega] at z
  by_cases h25 : y < 227
  · have z := List.all_eq_true.mp ckG_25 (y - 226) (List.mem_range.mpr (by omega))
    rwa [show 226 + (y - 226) = y by omega] at z
  by_cases h26 : y < 250
  · have z := List.all_eq_true.mp ckG_26 (y - 227) (List.mem_range.mpr (by omega))
    rwa [show 227 + (y - 227) = y by omega] at z
  by_cases h27 : y < 260
  · have z := List.all_eq_true.mp ckG_27 (y - 250) (List.mem_range.mpr (by omega))
    rwa [show 250 + (y - 250) = y by omega] at z
  omega
theorem lk_mem : ∀ {l : List (Nat × (Nat × Instr × Int × List Nat))} {pc : Nat} {i : Nat × Instr × Int × List Nat}, lk l pc = some i → (pc, i) ∈ l
  | [], _, _, h => by cases h
  | (p, j) :: l, pc, i, h => by
    unfold lk at h
    split at h
    · rename_i e
      subst e
      cases h
      exact List.mem_cons_self
    · exact List.mem_cons_of_mem _ (lk_mem h)
theorem codes_len : codes.length = mN := by decide +kernel
theorem ck_all {y pc nx : Nat} {ins : Instr} {v : Int} {o : List Nat} (h : cd y pc = some (nx, ins, v, o)) : decode (mc y) pc = .ok (ins, lenI pc nx ins) ∧ nx = pc + lenI pc nx ins ∧ ckI y pc ins v o (hn y pc) = true := by
  have hy : y < mN := by
    rw [← codes_len]
    apply Nat.lt_of_not_le
    intro q
    unfold cd at h
    rw [List.getElem?_eq_none q] at h
    cases h
  have h1 := List.all_eq_true.mp (ckY_all hy) _ (lk_mem h)
  unfold ckE at h1
  simp only [Bool.and_eq_true, decide_eq_true_eq] at h1
  exact ⟨h1.1.1, h1.1.2, h1.2⟩
