/-! one by one -/
section PCR
theorem pc_rw0 : pc_row pc_n pc_n pc_n pc_L0 = true := by decide +kernel
theorem pc_rw1 : pc_row pc_n pc_n pc_o pc_L1 = true := by decide +kernel
theorem pc_rw2 : pc_row pc_n pc_n pc_p pc_L2 = true := by decide +kernel
theorem pc_rw3 : pc_row pc_n pc_o pc_n pc_L3 = true := by decide +kernel
theorem pc_rw4 : pc_row pc_n pc_o pc_o pc_L4 = true := by decide +kernel
theorem pc_rw5 : pc_row pc_n pc_o pc_p pc_L5 = true := by decide +kernel
theorem pc_rw6 : pc_row pc_n pc_p pc_n pc_L6 = true := by decide +kernel
theorem pc_rw7 : pc_row pc_n pc_p pc_o pc_L7 = true := by decide +kernel
theorem pc_rw8 : pc_row pc_n pc_p pc_p pc_L8 = true := by decide +kernel
theorem pc_rw9 : pc_row pc_o pc_n pc_n pc_L9 = true := by decide +kernel
theorem pc_rw10 : pc_row pc_o pc_n pc_o pc_L10 = true := by decide +kernel
theorem pc_rw11 : pc_row pc_o pc_n pc_p pc_L11 = true := by decide +kernel
theorem pc_rw12 : pc_row pc_o pc_o pc_n pc_L12 = true := by decide +kernel
theorem pc_rw13 : pc_row pc_o pc_o pc_o pc_L13 = true := by decide +kernel
theorem pc_rw14 : pc_row pc_o pc_o pc_p pc_L14 = true := by decide +kernel
theorem pc_rw15 : pc_row pc_o pc_p pc_n pc_L15 = true := by decide +kernel
theorem pc_rw16 : pc_row pc_o pc_p pc_o pc_L16 = true := by decide +kernel
theorem pc_rw17 : pc_row pc_o pc_p pc_p pc_L17 = true := by decide +kernel
theorem pc_rw18 : pc_row pc_p pc_n pc_n pc_L18 = true := by decide +kernel
theorem pc_rw19 : pc_row pc_p pc_n pc_o pc_L19 = true := by decide +kernel
theorem pc_rw20 : pc_row pc_p pc_n pc_p pc_L20 = true := by decide +kernel
theorem pc_rw21 : pc_row pc_p pc_o pc_n pc_L21 = true := by decide +kernel
theorem pc_rw22 : pc_row pc_p pc_o pc_o pc_L22 = true := by decide +kernel
theorem pc_rw23 : pc_row pc_p pc_o pc_p pc_L23 = true := by decide +kernel
theorem pc_rw24 : pc_row pc_p pc_p pc_n pc_L24 = true := by decide +kernel
theorem pc_rw25 : pc_row pc_p pc_p pc_o pc_L25 = true := by decide +kernel
theorem pc_rw26 : pc_row pc_p pc_p pc_p pc_L26 = true := by decide +kernel
theorem pc_sing {m : pc_M} (hl : pc_le 1 m) (h1 : pc_dt m = 1) (hb : pc_bad m = false) : m ∈ pc_L := by
  obtain ⟨a1, a2, a3, a4, a5, a6, a7, a8, a9⟩ := m
  simp only [pc_le] at hl
  obtain ⟨⟨x1, y1⟩, ⟨x2, y2⟩, ⟨x3, y3⟩, ⟨x4, y4⟩, ⟨x5, y5⟩, ⟨x6, y6⟩, ⟨x7, y7⟩, ⟨x8, y8⟩, ⟨x9, y9⟩⟩ := hl
  have m4 := pc_v_mem x4 y4
  have m5 := pc_v_mem x5 y5
  have m6 := pc_v_mem x6 y6
  have m7 := pc_v_mem x7 y7
  have m8 := pc_v_mem x8 y8
  have m9 := pc_v_mem x9 y9
  have c1 : a1 = pc_n ∨ a1 = pc_o ∨ a1 = pc_p := by
    show a1 = -1 ∨ a1 = 0 ∨ a1 = 1
    omega
  have c2 : a2 = pc_n ∨ a2 = pc_o ∨ a2 = pc_p := by
    show a2 = -1 ∨ a2 = 0 ∨ a2 = 1
    omega
  have c3 : a3 = pc_n ∨ a3 = pc_o ∨ a3 = pc_p := by
    show a3 = -1 ∨ a3 = 0 ∨ a3 = 1
    omega
  unfold pc_L
  rcases c1 with c1 | c1 | c1 <;> rcases c2 with c2 | c2 | c2 <;> rcases c3 with c3 | c3 | c3 <;> subst c1 c2 c3
  · exact List.mem_append_left _ (pc_row_ok pc_rw0 m4 m5 m6 m7 m8 m9 h1 hb)
  · exact List.mem_append_right _ (List.mem_append_left _ (pc_row_ok pc_rw1 m4 m5 m6 m7 m8 m9 h1 hb))
  · exact List.mem_append_right _ (List.mem_append_right _ (List.mem_append_left _ (pc_row_ok pc_rw2 m4 m5 m6 m7 m8 m9 h1 hb)))
  · exact List.mem_append_right _ (List.mem_append_right _ (List.mem_append_right _ (List.mem_append_left _ (pc_row_ok pc_rw3 m4 m5 m6 m7 m8 m9 h1 hb))))
  · exact List.mem_append_right _ (List.mem_append_right _ (List.mem_append_right _ (List.mem_append_right _ (List.mem_append_left _ (pc_row_ok pc_rw4 m4 m5 m6 m7 m8 m9 h1 hb)))))
  · exact List.mem_append_right _ (List.mem_append_right _ (List.mem_append_right _ (List.mem_append_right _ (List.mem_append_right _ (List.mem_append_left _ (pc_row_ok pc_rw5 m4 m5 m6 m7 m8 m9 h1 hb))))))
  · exact List.mem_append_right _ (List.mem_append_right _ (List.mem_append_right _ (List.mem_append_right _ (List.mem_append_right _ (List.mem_append_right _ (List.mem_append_left _ (pc_row_ok pc_rw6 m4 m5 m6 m7 m8 m9 h1 hb)))))))
  · exact List.mem_append_right _ (List.mem_append_right _ (List.mem_append_right _ (List.mem_append_right _ (List.mem_append_right _ (List.mem_append_right _ (List.mem_append_right _ (List.mem_append_left _ (pc_row_ok pc_rw7 m4 m5 m6 m7 m8 m9 h1 hb))))))))
  · exact List.mem_append_right _ (List.mem_append_right _ (List.mem_append_right _ (List.mem_append_right _ (List.mem_append_right _ (List.mem_append_right _ (List.mem_append_right _ (List.mem_append_right _ (List.mem_append_left _ (pc_row_ok pc_rw8 m4 m5 m6 m7 m8 m9 h1 hb)))))))))
  · exact List.mem_append_right _ (List.mem_append_right _ (List.mem_append_right _ (List.mem_append_right _ (List.mem_append_right _ (List.mem_append_right _ (List.mem_append_right _ (List.mem_append_right _ (List.mem_append_right _ (List.mem_append_left _ (pc_row_ok pc_rw9 m4 m5 m6 m7 m8 m9 h1 hb))))))))))
  · exact List.mem_append_right _ (List.mem_append_right _ (List.mem_append_right _ (List.mem_append_right _ (List.mem_append_right _ (List.mem_append_right _ (List.mem_append_right _ (List.mem_append_right _ (List.mem_append_right _ (List.mem_append_right _ (List.mem_append_left _ (pc_row_ok pc_rw10 m4 m5 m6 m7 m8 m9 h1 hb)))))))))))
  · exact List.mem_append_right _ (List.mem_append_right _ (List.mem_append_right _ (List.mem_append_right _ (List.mem_append_right _ (List.mem_append_right _ (List.mem_append_right _ (List.mem_append_right _ (List.mem_append_right _ (List.mem_append_right _ (List.mem_append_right _ (List.mem_append_left _ (pc_row_ok pc_rw11 m4 m5 m6 m7 m8 m9 h1 hb))))))))))))
  · exact List.mem_append_right _ (List.mem_append_right _ (List.mem_append_right _ (List.mem_append_right _ (List.mem_append_right _ (List.mem_append_right _ (List.mem_append_right _ (List.mem_append_right _ (List.mem_append_right _ (List.mem_append_right _ (List.mem_append_right _ (List.mem_append_right _ (List.mem_append_left _ (pc_row_ok pc_rw12 m4 m5 m6 m7 m8 m9 h1 hb)))))))))))))
  · exact List.mem_append_right _ (List.mem_append_right _ (List.mem_append_right _ (List.mem_append_right _ (List.mem_append_right _ (List.mem_append_right _ (List.mem_append_right _ (List.mem_append_right _ (List.mem_append_right _ (List.mem_append_right _ (List.mem_append_right _ (List.mem_append_right _ (List.mem_append_right _ (List.mem_append_left _ (pc_row_ok pc_rw13 m4 m5 m6 m7 m8 m9 h1 hb))))))))))))))
  · exact List.mem_append_right _ (List.mem_append_right _ (List.mem_append_right _ (List.mem_append_right _ (List.mem_append_right _ (List.mem_append_right _ (List.mem_append_right _ (List.mem_append_right _ (List.mem_append_right _ (List.mem_append_right _ (List.mem_append_right _ (List.mem_append_right _ (List.mem_append_right _ (List.mem_append_right _ (List.mem_append_left _ (pc_row_ok pc_rw14 m4 m5 m6 m7 m8 m9 h1 hb)))))))))))))))
  · exact List.mem_append_right _ (List.mem_append_right _ (List.mem_append_right _ (List.mem_append_right _ (List.mem_append_right _ (List.mem_append_right _ (List.mem_append_right _ (List.mem_append_right _ (List.mem_append_right _ (List.mem_append_right _ (List.mem_append_right _ (List.mem_append_right _ (List.mem_append_right _ (List.mem_append_right _ (List.mem_append_right _ (List.mem_append_left _ (pc_row_ok pc_rw15 m4 m5 m6 m7 m8 m9 h1 hb))))))))))))))))
  · exact List.mem_append_right _ (List.mem_append_right _ (List.mem_append_right _ (List.mem_append_right _ (List.mem_append_right _ (List.mem_append_right _ (List.mem_append_right _ (List.mem_append_right _ (List.mem_append_right _ (List.mem_append_right _ (List.mem_append_right _ (List.mem_append_right _ (List.mem_append_right _ (List.mem_append_right _ (List.mem_append_right _ (List.mem_append_right _ (List.mem_append_left _ (pc_row_ok pc_rw16 m4 m5 m6 m7 m8 m9 h1 hb)))))))))))))))))
  · exact List.mem_append_right _ (List.mem_append_right _ (List.mem_append_right _ (List.mem_append_right _ (List.mem_append_right _ (List.mem_append_right _ (List.mem_append_right _ (List.mem_append_right _ (List.mem_append_right _ (List.mem_append_right _ (List.mem_append_right _ (List.mem_append_right _ (List.mem_append_right _ (List.mem_append_right _ (List.mem_append_right _ (List.mem_append_right _ (List.mem_append_right _ (List.mem_append_left _ (pc_row_ok pc_rw17 m4 m5 m6 m7 m8 m9 h1 hb))))))))))))))))))
  · exact List.mem_append_right _ (List.mem_append_right _ (List.mem_append_right _ (List.mem_append_right _ (List.mem_append_right _ (List.mem_append_right _ (List.mem_append_right _ (List.mem_append_right _ (List.mem_append_right _ (List.mem_append_right _ (List.mem_append_right _ (List.mem_append_right _ (List.mem_append_right _ (List.mem_append_right _ (List.mem_append_right _ (List.mem_append_right _ (List.mem_append_right _ (List.mem_append_right _ (List.mem_append_left _ (pc_row_ok pc_rw18 m4 m5 m6 m7 m8 m9 h1 hb)))))))))))))))))))
  · exact List.mem_append_right _ (List.mem_append_right _ (List.mem_append_right _ (List.mem_append_right _ (List.mem_append_right _ (List.mem_append_right _ (List.mem_append_right _ (List.mem_append_right _ (List.mem_append_right _ (List.mem_append_right _ (List.mem_append_right _ (List.mem_append_right _ (List.mem_append_right _ (List.mem_append_right _ (List.mem_append_right _ (List.mem_append_right _ (List.mem_append_right _ (List.mem_append_right _ (List.mem_append_right _ (List.mem_append_left _ (pc_row_ok pc_rw19 m4 m5 m6 m7 m8 m9 h1 hb))))))))))))))))))))
  · exact List.mem_append_right _ (List.mem_append_right _ (List.mem_append_right _ (List.mem_append_right _ (List.mem_append_right _ (List.mem_append_right _ (List.mem_append_right _ (List.mem_append_right _ (List.mem_append_right _ (List.mem_append_right _ (List.mem_append_right _ (List.mem_append_right _ (List.mem_append_right _ (List.mem_append_right _ (List.mem_append_right _ (List.mem_append_right _ (List.mem_append_right _ (List.mem_append_right _ (List.mem_append_right _ (List.mem_append_right _ (List.mem_append_left _ (pc_row_ok pc_rw20 m4 m5 m6 m7 m8 m9 h1 hb)))))))))))))))))))))
  · exact List.mem_append_right _ (List.mem_append_right _ (List.mem_append_right _ (List.mem_append_right _ (List.mem_append_right _ (List.mem_append_right _ (List.mem_append_right _ (List.mem_append_right _ (List.mem_append_right _ (List.mem_append_right _ (List.mem_append_right _ (List.mem_append_right _ (List.mem_append_right _ (List.mem_append_right _ (List.mem_append_right _ (List.mem_append_right _ (List.mem_append_right _ (List.mem_append_right _ (List.mem_append_right _ (List.mem_append_right _ (List.mem_append_right _ (List.mem_append_left _ (pc_row_ok pc_rw21 m4 m5 m6 m7 m8 m9 h1 hb))))))))))))))))))))))
  · exact List.mem_append_right _ (List.mem_append_right _ (List.mem_append_right _ (List.mem_append_right _ (List.mem_append_right _ (List.mem_append_right _ (List.mem_append_right _ (List.mem_append_right _ (List.mem_append_right _ (List.mem_append_right _ (List.mem_append_right _ (List.mem_append_right _ (List.mem_append_right _ (List.mem_append_right _ (List.mem_append_right _ (List.mem_append_right _ (List.mem_append_right _ (List.mem_append_right _ (List.mem_append_right _ (List.mem_append_right _ (List.mem_append_right _ (List.mem_append_right _ (List.mem_append_left _ (pc_row_ok pc_rw22 m4 m5 m6 m7 m8 m9 h1 hb)))))))))))))))))))))))
  · exact List.mem_append_right _ (List.mem_append_right _ (List.mem_append_right _ (List.mem_append_right _ (List.mem_append_right _ (List.mem_append_right _ (List.mem_append_right _ (List.mem_append_right _ (List.mem_append_right _ (List.mem_append_right _ (List.mem_append_right _ (List.mem_append_right _ (List.mem_append_right _ (List.mem_append_right _ (List.mem_append_right _ (List.mem_append_right _ (List.mem_append_right _ (List.mem_append_right _ (List.mem_append_right _ (List.mem_append_right _ (List.mem_append_right _ (List.mem_append_right _ (List.mem_append_right _ (List.mem_append_left _ (pc_row_ok pc_rw23 m4 m5 m6 m7 m8 m9 h1 hb))))))))))))))))))))))))
  · exact List.mem_append_right _ (List.mem_append_right _ (List.mem_append_right _ (List.mem_append_right _ (List.mem_append_right _ (List.mem_append_right _ (List.mem_append_right _ (List.mem_append_right _ (List.mem_append_right _ (List.mem_append_right _ (List.mem_append_right _ (List.mem_append_right _ (List.mem_append_right _ (List.mem_append_right _ (List.mem_append_right _ (List.mem_append_right _ (List.mem_append_right _ (List.mem_append_right _ (List.mem_append_right _ (List.mem_append_right _ (List.mem_append_right _ (List.mem_append_right _ (List.mem_append_right _ (List.mem_append_right _ (List.mem_append_left _ (pc_row_ok pc_rw24 m4 m5 m6 m7 m8 m9 h1 hb)))))))))))))))))))))))))
  · exact List.mem_append_right _ (List.mem_append_right _ (List.mem_append_right _ (List.mem_append_right _ (List.mem_append_right _ (List.mem_append_right _ (List.mem_append_right _ (List.mem_append_right _ (List.mem_append_right _ (List.mem_append_right _ (List.mem_append_right _ (List.mem_append_right _ (List.mem_append_right _ (List.mem_append_right _ (List.mem_append_right _ (List.mem_append_right _ (List.mem_append_right _ (List.mem_append_right _ (List.mem_append_right _ (List.mem_append_right _ (List.mem_append_right _ (List.mem_append_right _ (List.mem_append_right _ (List.mem_append_right _ (List.mem_append_right _ (List.mem_append_left _ (pc_row_ok pc_rw25 m4 m5 m6 m7 m8 m9 h1 hb))))))))))))))))))))))))))
  · exact List.mem_append_right _ (List.mem_append_right _ (List.mem_append_right _ (List.mem_append_right _ (List.mem_append_right _ (List.mem_append_right _ (List.mem_append_right _ (List.mem_append_right _ (List.mem_append_right _ (List.mem_append_right _ (List.mem_append_right _ (List.mem_append_right _ (List.mem_append_right _ (List.mem_append_right _ (List.mem_append_right _ (List.mem_append_right _ (List.mem_append_right _ (List.mem_append_right _ (List.mem_append_right _ (List.mem_append_right _ (List.mem_append_right _ (List.mem_append_right _ (List.mem_append_right _ (List.mem_append_right _ (List.mem_append_right _ (List.mem_append_right _ (pc_row_ok pc_rw26 m4 m5 m6 m7 m8 m9 h1 hb))))))))))))))))))))))))))
def pc_pw (m : pc_M) : Bool := pc_eqb (pc_pow m 12) pc_1 && pc_clb 5 (pc_pow m 2) && (List.range 12).all (fun e => pc_clb 7 (pc_pow m e))
def pc_one (m : pc_M) (c : List Nat × Nat) : Bool := Nat.blt c.2 42 && pc_eqb (pc_cjs c.1 m) (pc_R.getD c.2 pc_1) && pc_pw m
def pc_cz : List pc_M → List (List Nat × Nat) → Bool
  | [], [] => true
  | m :: l, c :: cs => pc_one m c && pc_cz l cs
  | _, _ => false
theorem pc_cz_ok : ∀ l cs, pc_cz l cs = true → ∀ m, m ∈ l → ∃ c, pc_one m c = true
  | [], [], _, m, hm => absurd hm List.not_mem_nil
  | x :: l, c :: cs, h, m, hm => by
    unfold pc_cz at h
    rw [Bool.and_eq_true] at h
    rcases List.mem_cons.mp hm with e | e
    · rw [e]
      exact ⟨c, h.1⟩
    · exact pc_cz_ok l cs h.2 m e
  | [], _ :: _, h, _, _ => by
    unfold pc_cz at h
    exact absurd h (by decide)
  | _ :: _, [], h, _, _ => by
    unfold pc_cz at h
    exact absurd h (by decide)
theorem pc_cz0 : pc_cz pc_L0 [([], 0), ([], 1), ([], 2), ([], 3), ([], 4), ([1], 2), ([1], 3), ([1], 4), ([1], 0), ([], 5)] = true := by decide +kernel
theorem pc_cz1 : pc_cz pc_L1 [([], 6), ([], 7), ([3, 2], 6), ([], 8), ([], 9), ([], 10), ([], 11), ([], 12), ([], 13), ([3, 2], 12), ([3, 2], 11), ([3, 2], 10), ([3, 2], 9), ([3, 2], 8), ([], 14), ([3, 2], 14)] = true := by decide +kernel
theorem pc_cz2 : pc_cz pc_L2 [([3, 2], 1), ([3, 2], 0), ([3, 2], 4), ([3, 2], 3), ([3, 2], 2), ([1, 3], 4), ([1, 3], 3), ([1, 3], 2), ([3, 2], 5), ([1, 3], 0)] = true := by decide +kernel
theorem pc_cz3 : pc_cz pc_L3 [([3, 1], 14), ([1], 9), ([1], 10), ([1], 11), ([1], 6), ([1], 7), ([3, 1], 6), ([1], 12), ([1], 8), ([1], 13), ([3, 1], 8), ([3, 1], 12), ([1], 14), ([3, 1], 11), ([3, 1], 10), ([3, 1], 9)] = true := by decide +kernel
theorem pc_cz4 : pc_cz pc_L4 [([], 15), ([3, 1], 15), ([], 16), ([], 17), ([3, 2], 16), ([0, 1], 7), ([1], 16), ([1], 17), ([3, 1], 16), ([0, 1], 17), ([], 18), ([3, 0, 1], 17), ([2, 1], 16), ([2, 1], 17), ([1, 3], 16), ([3, 0, 1], 7), ([], 19), ([3], 19), ([0, 1, 0], 17), ([0, 1, 0], 7), ([1], 18), ([3, 0, 1, 0], 7), ([3, 0, 1, 0], 17), ([1], 15), ([3], 15), ([2], 16), ([2], 17), ([3], 16)] = true := by decide +kernel
theorem pc_cz5 : pc_cz pc_L5 [([2, 1], 14), ([1, 3], 11), ([1, 3], 10), ([1, 3], 9), ([2, 1], 6), ([2, 1], 7), ([1, 3], 6), ([2, 1], 12), ([2, 1], 8), ([2, 1], 13), ([1, 3], 8), ([1, 3], 12), ([1, 3], 14), ([2, 1], 9), ([2, 1], 10), ([2, 1], 11)] = true := by decide +kernel
theorem pc_cz6 : pc_cz pc_L6 [([3, 1], 4), ([3, 1], 3), ([3, 1], 2), ([3, 1], 0), ([3], 5), ([3], 1), ([3], 0), ([3], 4), ([3], 3), ([3], 2)] = true := by decide +kernel
theorem pc_cz7 : pc_cz pc_L7 [([2], 8), ([3], 11), ([3], 10), ([3], 9), ([2], 12), ([2], 13), ([3], 12), ([2], 9), ([2], 10), ([2], 11), ([3], 8), ([2], 14), ([3], 14), ([2], 6), ([2], 7), ([3], 6)] = true := by decide +kernel
theorem pc_cz8 : pc_cz pc_L8 [([2, 1], 2), ([2, 1], 3), ([2, 1], 4), ([2], 5), ([2, 1], 0), ([2], 0), ([2], 1), ([2], 2), ([2], 3), ([2], 4)] = true := by decide +kernel
theorem pc_cz9 : pc_cz pc_L9 [([], 20), ([0], 20), ([], 21), ([], 22), ([1, 0], 15), ([0], 15), ([2, 0, 1, 0], 22), ([], 23), ([1], 20), ([2, 0, 1, 0], 4), ([], 24), ([], 25), ([1, 3, 0], 8), ([], 26), ([], 27), ([0, 1, 3, 0], 2), ([0, 1, 3, 0], 24), ([], 28), ([2, 0, 1], 4), ([3, 0], 8), ([3, 0, 1], 2), ([2, 0, 1], 22), ([1], 24), ([1, 0], 20), ([1], 26), ([1], 22), ([3, 0, 1], 24), ([1], 25), ([1], 23), ([1], 27), ([1], 21), ([1], 28)] = true := by decide +kernel
theorem pc_cz10 : pc_cz pc_L10 [([0], 22), ([3, 1, 0], 1), ([1, 0], 19), ([2, 1, 0], 1), ([3, 2, 0], 22), ([2, 0, 1], 14), ([3, 0, 1], 14), ([], 29), ([], 30), ([3, 2], 30), ([1, 0], 29), ([1, 3, 0], 0), ([1, 3, 0], 23), ([], 31), ([1, 0], 0), ([1, 0], 23), ([3, 2], 31), ([2, 0, 1], 3), ([2, 0], 11), ([3, 0], 12), ([3, 0], 9), ([2, 0], 10), ([2, 0], 13), ([3, 0], 10), ([2, 0], 9), ([2, 0], 12), ([3, 0], 11), ([3, 0, 1], 3), ([2, 0, 1], 26), ([2, 0, 1, 0], 20), ([], 32), ([], 33), ([3, 0], 32), ([2, 0], 33), ([], 34), ([3, 0], 33), ([2, 0], 32), ([3, 2], 33), ([3, 2], 32), ([3, 0, 1, 0], 20), ([3, 0, 1], 26), ([], 35), ([1, 3, 0], 30), ([], 36), ([], 37), ([], 38), ([], 39), ([], 40), ([3, 2], 39), ([3, 2], 38), ([3, 2], 37), ([3, 2], 36), ([1, 0], 30), ([3, 2], 35)] = true := by decide +kernel
theorem pc_cz11 : pc_cz pc_L11 [([0, 1, 0], 15), ([3, 2], 22), ([3, 2], 21), ([3, 2, 0], 20), ([3, 2], 20), ([3, 2, 0], 15), ([1, 3], 20), ([3, 2], 23), ([3, 0, 1, 0], 22), ([0, 1, 0], 2), ([0, 1, 0], 24), ([3, 2], 28), ([1, 0], 8), ([3, 2], 26), ([3, 2], 27), ([3, 0, 1, 0], 4), ([3, 2], 24), ([3, 2], 25), ([2, 0, 1], 2), ([2, 0], 8), ([3, 0, 1], 4), ([2, 0, 1], 24), ([1, 3], 22), ([1, 3], 26), ([1, 3, 0], 20), ([1, 3], 24), ([3, 0, 1], 22), ([1, 3], 28), ([1, 3], 21), ([1, 3], 27), ([1, 3], 23), ([1, 3], 25)] = true := by decide +kernel
theorem pc_cz12 : pc_cz pc_L12 [([0], 0), ([3, 2, 0], 1), ([3, 1, 0], 22), ([0], 23), ([0], 29), ([0], 30), ([0, 1, 3], 20), ([0, 1, 3, 0], 14), ([3, 1], 30), ([3, 1], 31), ([2, 1, 0], 11), ([1], 32), ([1], 36), ([1, 3, 0], 12), ([1], 33), ([1], 37), ([1, 3, 0], 9), ([1, 3, 0], 32), ([1], 38), ([0], 19), ([2, 1, 0], 10), ([2, 1, 0], 33), ([1], 39), ([2, 0, 1, 0], 3), ([2, 0, 1, 0], 26), ([1], 35), ([2, 1, 0], 13), ([1], 34), ([1], 40), ([0, 1, 3, 0], 3), ([0, 1, 3, 0], 26), ([3, 1], 35), ([1, 3, 0], 10), ([1, 3, 0], 33), ([3, 1], 39), ([2, 0], 1), ([3, 0], 0), ([2, 0, 1], 20), ([1], 29), ([3, 0], 30), ([1, 0], 22), ([3, 0], 23), ([2, 1, 0], 9), ([2, 1, 0], 32), ([3, 1], 38), ([2, 1, 0], 12), ([3, 1], 33), ([3, 1], 37), ([2, 0, 1, 0], 14), ([1], 30), ([1], 31), ([1, 3, 0], 11), ([3, 1], 32), ([3, 1], 36)] = true := by decide +kernel
theorem pc_cz13 : pc_cz pc_L13 [] = true := by decide +kernel
theorem pc_cz14 : pc_cz pc_L14 [([0], 1), ([3, 2, 0], 0), ([0, 1], 20), ([3, 2, 0], 30), ([2, 1], 29), ([3, 2, 0], 23), ([2, 1, 0], 22), ([1, 0], 9), ([1, 0], 32), ([1, 3], 38), ([1, 0], 12), ([1, 3], 33), ([1, 3], 37), ([3, 1, 0], 11), ([1, 3], 32), ([1, 3], 36), ([0, 1, 0], 14), ([2, 1], 30), ([2, 1], 31), ([2, 0], 19), ([1, 0], 10), ([1, 0], 33), ([2, 1], 39), ([0, 1, 0], 3), ([0, 1, 0], 26), ([2, 1], 35), ([1, 0], 13), ([1, 0], 34), ([2, 1], 40), ([3, 0, 1, 0], 3), ([3, 0, 1, 0], 26), ([1, 3], 35), ([3, 1, 0], 10), ([3, 1, 0], 33), ([1, 3], 39), ([2, 0], 0), ([3, 0], 1), ([2, 0], 23), ([1, 3, 0], 22), ([2, 0], 30), ([2, 0], 29), ([3, 0, 1], 20), ([1, 0], 11), ([2, 1], 32), ([2, 1], 36), ([3, 0, 1, 0], 14), ([1, 3], 30), ([1, 3], 31), ([3, 1, 0], 12), ([2, 1], 33), ([2, 1], 37), ([3, 1, 0], 9), ([3, 1, 0], 32), ([2, 1], 38)] = true := by decide +kernel
theorem pc_cz15 : pc_cz pc_L15 [([0, 1], 2), ([0], 8), ([0, 1, 3], 4), ([3, 1], 22), ([0, 1], 24), ([3, 1, 0], 20), ([3, 1], 26), ([3, 1], 24), ([0, 1, 3], 22), ([3, 1], 21), ([3, 1], 28), ([3, 1], 27), ([3, 1], 23), ([3, 1], 25), ([3, 0], 15), ([3, 1], 20), ([3], 23), ([0, 1, 3, 0], 22), ([2, 0, 1, 0], 2), ([2, 0, 1, 0], 24), ([3], 28), ([2, 1, 0], 8), ([3], 26), ([3], 27), ([0, 1, 3, 0], 4), ([3], 24), ([3], 25), ([3, 1, 0], 15), ([3], 22), ([3], 20), ([3], 21), ([3, 0], 20)] = true := by decide +kernel
theorem pc_cz16 : pc_cz pc_L16 [([0, 1], 3), ([0], 9), ([0], 12), ([3, 2, 0], 11), ([0], 10), ([0], 13), ([3, 2, 0], 10), ([0], 11), ([3, 2, 0], 12), ([3, 2, 0], 9), ([0, 1, 3], 3), ([0, 1, 0], 20), ([0, 1], 26), ([0], 32), ([3], 33), ([3], 32), ([0], 33), ([0], 34), ([3, 2, 0], 33), ([2], 32), ([2], 33), ([3, 2, 0], 32), ([0, 1, 3], 26), ([0, 1, 3, 0], 20), ([3, 1, 0], 30), ([2], 35), ([3], 38), ([3], 37), ([3], 36), ([2], 39), ([2], 40), ([3], 39), ([2], 36), ([2], 37), ([2], 38), ([3], 35), ([2, 1, 0], 30), ([0, 1], 14), ([0, 1, 3], 14), ([2], 29), ([2], 30), ([3], 30), ([3], 29), ([3, 1, 0], 0), ([3, 1, 0], 23), ([2], 31), ([2, 1, 0], 0), ([2, 1, 0], 23), ([3], 31), ([2, 0], 22), ([1, 0], 1), ([2, 1, 0], 19), ([1, 3, 0], 1), ([3, 0], 22)] = true := by decide +kernel
theorem pc_cz17 : pc_cz pc_L17 [([0, 1], 4), ([3, 2, 0], 8), ([0, 1, 3], 2), ([0, 1], 22), ([2, 1], 24), ([2, 1], 26), ([2, 1, 0], 20), ([0, 1, 3], 24), ([2, 1], 22), ([2, 1], 25), ([2, 1], 23), ([2, 1], 27), ([2, 1], 28), ([2, 1], 21), ([2, 0], 15), ([0, 1, 0], 22), ([2], 23), ([2, 1], 20), ([0, 1, 0], 4), ([2], 24), ([2], 25), ([3, 1, 0], 8), ([2], 26), ([2], 27), ([3, 0, 1, 0], 2), ([3, 0, 1, 0], 24), ([2], 28), ([2, 0], 20), ([2], 21), ([2], 20), ([2], 22), ([2, 1, 0], 15)] = true := by decide +kernel
theorem pc_cz18 : pc_cz pc_L18 [([0, 1], 9), ([0], 16), ([0, 1, 3], 11), ([3, 0, 1, 0], 11), ([0, 1], 32), ([0, 1], 36), ([1, 3, 0], 14), ([2, 0, 1], 30), ([2, 0, 1], 31), ([0, 1, 0], 9), ([0, 1, 0], 32), ([0, 1, 3], 38), ([3, 0, 1, 0], 38), ([2, 0, 1, 0], 28), ([1, 3, 0], 35), ([0, 1, 3, 0], 25), ([0, 1, 0], 36), ([3, 0], 14), ([2, 0, 1], 28), ([2, 0, 1], 21), ([2, 0, 1, 0], 30), ([3, 0], 35), ([3, 0, 1], 25), ([2, 0, 1, 0], 31)] = true := by decide +kernel
theorem pc_cz19 : pc_cz pc_L19 [([0, 1], 10), ([0], 17), ([0, 1, 3], 10), ([0, 1, 3, 0], 12), ([0, 1], 33), ([0, 1], 37), ([0, 1, 0], 12), ([0, 1, 3], 33), ([0, 1, 3], 37), ([0, 1, 3, 0], 39), ([0, 1, 0], 39), ([2, 0], 5), ([2, 0, 1], 0), ([3, 0, 1], 0), ([3, 0], 5), ([2, 0, 1], 27), ([2, 0, 1], 23), ([2, 0], 38), ([3, 0], 39), ([3, 0], 36), ([2, 0], 37), ([2, 0], 40), ([3, 0], 37), ([2, 0], 36), ([2, 0], 39), ([3, 0], 38), ([3, 0, 1], 23), ([3, 0, 1], 27), ([1, 3, 0], 31), ([1, 0], 31)] = true := by decide +kernel
theorem pc_cz20 : pc_cz pc_L20 [([0, 1], 11), ([3, 2, 0], 16), ([0, 1, 3], 9), ([0, 1, 3, 0], 9), ([0, 1, 3, 0], 32), ([0, 1], 38), ([1, 0], 14), ([3, 0, 1], 30), ([3, 0, 1], 31), ([2, 0, 1, 0], 11), ([0, 1, 3], 32), ([0, 1, 3], 36), ([0, 1, 3, 0], 36), ([0, 1, 0], 25), ([1, 0], 35), ([3, 0, 1, 0], 28), ([2, 0, 1, 0], 38), ([2, 0], 14), ([2, 0, 1], 25), ([2, 0], 35), ([3, 0, 1, 0], 30), ([3, 0, 1], 21), ([3, 0, 1], 28), ([3, 0, 1, 0], 31)] = true := by decide +kernel
theorem pc_cz21 : pc_cz pc_L21 [([0, 1, 3, 0], 0), ([0, 1, 3, 0], 23), ([0], 31), ([2, 1, 0], 38), ([1, 3, 0], 39), ([1, 3, 0], 36), ([0, 1], 12), ([1, 0], 17), ([3, 0, 1], 12), ([3, 0, 1, 0], 10), ([3, 0, 1, 0], 33), ([0, 1], 39), ([0, 1, 0], 10), ([0, 1, 0], 33), ([3, 0, 1], 39), ([3, 0, 1, 0], 37), ([2, 1, 0], 37), ([1, 3, 0], 5), ([2, 0, 1, 0], 27), ([2, 1, 0], 40), ([0, 1, 3, 0], 27), ([0, 1, 0], 37), ([2, 1, 0], 5), ([1, 3, 0], 37), ([2, 0, 1, 0], 0), ([2, 0, 1, 0], 23), ([3, 0], 31), ([2, 1, 0], 36), ([2, 1, 0], 39), ([1, 3, 0], 38)] = true := by decide +kernel
theorem pc_cz22 : pc_cz pc_L22 [([0], 2), ([0], 3), ([0], 4), ([0], 6), ([0], 7), ([3, 2, 0], 6), ([3, 2, 0], 4), ([3, 2, 0], 3), ([3, 2, 0], 2), ([3, 1, 0], 4), ([0], 24), ([0], 25), ([0, 1, 3, 0], 8), ([0], 26), ([0], 27), ([1, 3, 0], 2), ([1, 3, 0], 24), ([0], 28), ([1, 0], 2), ([1, 0], 24), ([3, 2, 0], 28), ([0, 1, 0], 8), ([3, 2, 0], 26), ([3, 2, 0], 27), ([2, 1, 0], 4), ([3, 2, 0], 24), ([3, 2, 0], 25), ([3, 1, 0], 28), ([0, 1, 3, 0], 35), ([1, 3, 0], 25), ([1, 0], 25), ([0, 1, 0], 35), ([2, 1, 0], 28), ([0, 1], 8), ([0, 1], 13), ([2, 0, 1], 8), ([1, 0], 7), ([0, 1], 18), ([2, 1, 0], 7), ([3, 0, 1], 8), ([3, 0, 1], 13), ([0, 1, 3], 8), ([3, 1, 0], 3), ([3, 1, 0], 26), ([0, 1], 35), ([3, 0, 1, 0], 13), ([0, 1], 34), ([0, 1], 40), ([1, 3, 0], 3), ([1, 3, 0], 26), ([2, 0, 1], 35), ([1, 0], 3), ([1, 0], 26), ([3, 0, 1], 35), ([0, 1, 0], 13), ([0, 1, 0], 34), ([3, 0, 1], 40), ([2, 1, 0], 3), ([2, 1, 0], 26), ([0, 1, 3], 35), ([3, 1, 0], 27), ([3, 0, 1, 0], 40), ([1, 3, 0], 27), ([], 41), ([1, 0], 27), ([0, 1, 0], 40), ([2, 1, 0], 27), ([2, 0], 4), ([2, 0], 3), ([2, 0], 2), ([3, 0], 6), ([2, 0], 7), ([2, 0], 6), ([3, 0], 2), ([3, 0], 3), ([3, 0], 4), ([3, 1, 0], 2), ([3, 1, 0], 24), ([2, 0], 28), ([3, 0, 1, 0], 8), ([2, 0], 26), ([2, 0], 27), ([1, 3, 0], 4), ([2, 0], 24), ([2, 0], 25), ([1, 0], 4), ([3, 0], 24), ([3, 0], 25), ([2, 0, 1, 0], 8), ([3, 0], 26), ([3, 0], 27), ([2, 1, 0], 2), ([2, 1, 0], 24), ([3, 0], 28), ([3, 1, 0], 25), ([3, 0, 1, 0], 35), ([1, 3, 0], 28), ([1, 0], 28), ([2, 0, 1, 0], 35), ([2, 1, 0], 25)] = true := by decide +kernel
theorem pc_cz23 : pc_cz pc_L23 [([0, 1, 0], 0), ([0, 1, 0], 23), ([3, 2, 0], 31), ([1, 0], 36), ([1, 0], 39), ([3, 1, 0], 38), ([2, 0, 1], 12), ([2, 1, 0], 17), ([0, 1, 3], 12), ([0, 1, 3, 0], 10), ([0, 1, 3, 0], 33), ([2, 0, 1], 39), ([2, 0, 1, 0], 10), ([2, 0, 1, 0], 33), ([0, 1, 3], 39), ([1, 0], 37), ([3, 1, 0], 5), ([0, 1, 3, 0], 37), ([0, 1, 0], 27), ([1, 0], 40), ([3, 0, 1, 0], 27), ([1, 0], 5), ([3, 1, 0], 37), ([2, 0, 1, 0], 37), ([3, 0, 1, 0], 0), ([3, 0, 1, 0], 23), ([2, 0], 31), ([1, 0], 38), ([3, 1, 0], 39), ([3, 1, 0], 36)] = true := by decide +kernel
theorem pc_cz24 : pc_cz pc_L24 [([0], 14), ([0, 1], 25), ([0], 35), ([0, 1, 3, 0], 30), ([0, 1, 3], 28), ([0, 1, 3], 21), ([0, 1, 3, 0], 31), ([2, 0, 1], 11), ([3, 0], 16), ([3, 0, 1], 9), ([3, 0, 1, 0], 9), ([3, 0, 1, 0], 32), ([2, 0, 1], 38), ([0, 1, 0], 11), ([3, 0, 1], 32), ([3, 0, 1], 36), ([2, 1, 0], 14), ([0, 1, 3], 30), ([0, 1, 3], 31), ([3, 0, 1, 0], 36), ([2, 0, 1, 0], 25), ([2, 1, 0], 35), ([0, 1, 3, 0], 28), ([0, 1, 0], 38)] = true := by decide +kernel
theorem pc_cz25 : pc_cz pc_L25 [([0, 1], 0), ([0], 5), ([3, 2, 0], 5), ([0, 1, 3], 0), ([0, 1], 23), ([0, 1], 27), ([0], 36), ([0], 39), ([3, 2, 0], 38), ([0], 37), ([0], 40), ([3, 2, 0], 37), ([0], 38), ([3, 2, 0], 39), ([3, 2, 0], 36), ([0, 1, 3], 27), ([0, 1, 3], 23), ([3, 1, 0], 31), ([2, 1, 0], 31), ([2, 0, 1], 10), ([2, 0], 17), ([3, 0, 1], 10), ([3, 0, 1, 0], 12), ([2, 0, 1], 33), ([2, 0, 1], 37), ([2, 0, 1, 0], 12), ([3, 0, 1], 33), ([3, 0, 1], 37), ([3, 0, 1, 0], 39), ([2, 0, 1, 0], 39)] = true := by decide +kernel
theorem pc_cz26 : pc_cz pc_L26 [([3, 2, 0], 14), ([0, 1], 21), ([0, 1], 28), ([0, 1, 0], 30), ([3, 2, 0], 35), ([0, 1, 3], 25), ([0, 1, 0], 31), ([2, 0, 1], 9), ([2, 0], 16), ([3, 0, 1], 11), ([3, 1, 0], 14), ([0, 1], 30), ([0, 1], 31), ([0, 1, 3, 0], 11), ([2, 0, 1], 32), ([2, 0, 1], 36), ([2, 0, 1, 0], 9), ([2, 0, 1, 0], 32), ([3, 0, 1], 38), ([0, 1, 3, 0], 38), ([0, 1, 0], 28), ([3, 1, 0], 35), ([3, 0, 1, 0], 25), ([2, 0, 1, 0], 36)] = true := by decide +kernel
theorem pc_cert {m : pc_M} (h : m ∈ pc_L) : ∃ c, pc_one m c = true := by
  unfold pc_L at h
  rcases List.mem_append.mp h with h | h
  · exact pc_cz_ok _ _ pc_cz0 _ h
  rcases List.mem_append.mp h with h | h
  · exact pc_cz_ok _ _ pc_cz1 _ h
  rcases List.mem_append.mp h with h | h
  · exact pc_cz_ok _ _ pc_cz2 _ h
  rcases List.mem_append.mp h with h | h
  · exact pc_cz_ok _ _ pc_cz3 _ h
  rcases List.mem_append.mp h with h | h
  · exact pc_cz_ok _ _ pc_cz4 _ h
  rcases List.mem_append.mp h with h | h
  · exact pc_cz_ok _ _ pc_cz5 _ h
  rcases List.mem_append.mp h with h | h
  · exact pc_cz_ok _ _ pc_cz6 _ h
  rcases List.mem_append.mp h with h | h
  · exact pc_cz_ok _ _ pc_cz7 _ h
  rcases List.mem_append.mp h with h | h
  · exact pc_cz_ok _ _ pc_cz8 _ h
  rcases List.mem_append.mp h with h | h
  · exact pc_cz_ok _ _ pc_cz9 _ h
  rcases List.mem_append.mp h with h | h
  · exact pc_cz_ok _ _ pc_cz10 _ h
  rcases List.mem_append.mp h with h | h
  · exact pc_cz_ok _ _ pc_cz11 _ h
  rcases List.mem_append.mp h with h | h
  · exact pc_cz_ok _ _ pc_cz12 _ h
  rcases List.mem_append.mp h with h | h
  · exact pc_cz_ok _ _ pc_cz13 _ h
  rcases List.mem_append.mp h with h | h
  · exact pc_cz_ok _ _ pc_cz14 _ h
  rcases List.mem_append.mp h with h | h
  · exact pc_cz_ok _ _ pc_cz15 _ h
  rcases List.mem_append.mp h with h | h
  · exact pc_cz_ok _ _ pc_cz16 _ h
  rcases List.mem_append.mp h with h | h
  · exact pc_cz_ok _ _ pc_cz17 _ h
  rcases List.mem_append.mp h with h | h
  · exact pc_cz_ok _ _ pc_cz18 _ h
  rcases List.mem_append.mp h with h | h
  · exact pc_cz_ok _ _ pc_cz19 _ h
  rcases List.mem_append.mp h with h | h
  · exact pc_cz_ok _ _ pc_cz20 _ h
  rcases List.mem_append.mp h with h | h
  · exact pc_cz_ok _ _ pc_cz21 _ h
  rcases List.mem_append.mp h with h | h
  · exact pc_cz_ok _ _ pc_cz22 _ h
  rcases List.mem_append.mp h with h | h
  · exact pc_cz_ok _ _ pc_cz23 _ h
  rcases List.mem_append.mp h with h | h
  · exact pc_cz_ok _ _ pc_cz24 _ h
  rcases List.mem_append.mp h with h | h
  · exact pc_cz_ok _ _ pc_cz25 _ h
  exact pc_cz_ok _ _ pc_cz26 _ h
end PCR
