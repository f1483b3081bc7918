/-! few products modulo 4294967296: all numbers of all products are small -/
section PCF
theorem pc_nz_inj {x y : pc_M} (hx : pc_U x) (hd : pc_dt x = pc_dt y) (h : pc_nz x = pc_nz y) : x = y := by
  rcases hx with d | d
  · rw [pc_nz_pos d, pc_nz_pos (hd.symm.trans d)] at h
    exact h
  · rw [pc_nz_neg d, pc_nz_neg (hd.symm.trans d)] at h
    have e : pc_neg (pc_neg x) = pc_neg (pc_neg y) := by rw [h]
    rw [pc_neg_neg, pc_neg_neg] at e
    exact e
theorem pc_pw12 {m : pc_M} (h : pc_pow m 12 = pc_1) (e : Nat) : pc_pow m e = pc_pow m (e % 12) := by
  have d := Nat.div_add_mod e 12
  have z : pc_pow m (12 * (e / 12) + e % 12) = pc_pow m (e % 12) := by
    rw [pc_pow_add, pc_pow_mul, h, pc_pow_1, pc_one_mul]
  rw [d] at z
  exact z
theorem pc_inL {S : List pc_M} (hS : ∀ s, s ∈ S → pc_le 1 s ∧ pc_U s) (H : pc_H S) (ks : List Nat) {s : pc_M} (hs : s ∈ S) : pc_ph ks s ∈ pc_L := by
  have hu := (hS s hs).2
  obtain ⟨k, k1, k2, hc⟩ := pc_tor H (fun s hs => (hS s hs).2) (pc_W_mem hs)
  exact pc_sing (pc_ph_le ks (hS s hs).1) (pc_ph_dt ks hu) (pc_bad_no (pc_ph_dt ks hu) k1 k2 (pc_ph_tor ks hu hc))
theorem pc_notbad {S : List pc_M} (hS : ∀ s, s ∈ S → pc_le 1 s ∧ pc_U s) (H : pc_H S) (ks : List Nat) {x : pc_M} (hx : pc_W S x) : pc_bad (pc_ph ks x) = false := by
  have hu := pc_W_U (fun s hs => (hS s hs).2) hx
  obtain ⟨k, k1, k2, hc⟩ := pc_tor H (fun s hs => (hS s hs).2) hx
  exact pc_bad_no (pc_ph_dt ks hu) k1 k2 (pc_ph_tor ks hu hc)
theorem pc_one_use {m : pc_M} {c : List Nat × Nat} (h : pc_one m c = true) : c.2 < 42 ∧ pc_cjs c.1 m = pc_R.getD c.2 pc_1 ∧ pc_pow m 12 = pc_1 ∧ pc_cl 5 (pc_pow m 2) ∧ ∀ e, pc_cl 7 (pc_pow m e) := by
  unfold pc_one pc_pw at h
  rw [Bool.and_eq_true, Bool.and_eq_true, Bool.and_eq_true, Bool.and_eq_true] at h
  obtain ⟨⟨h1, h2⟩, ⟨h3, h4⟩, h5⟩ := h
  have e12 := pc_eqb_eq h3
  refine ⟨Nat.le_of_ble_eq_true h1, pc_eqb_eq h2, e12, pc_clb_ok h4, fun e => ?_⟩
  rw [pc_pw12 e12 e]
  exact pc_clb_ok (List.all_eq_true.mp h5 (e % 12) (List.mem_range.mpr (Nat.mod_lt _ (by decide))))
theorem pc_ph_nil (x : pc_M) : pc_ph [] x = pc_nz x := rfl
theorem pc_gens {S : List pc_M} (hS : ∀ s, s ∈ S → pc_le 1 s ∧ pc_U s) (H : pc_H S) {s : pc_M} (hs : s ∈ S) : pc_pow s 12 = pc_1 ∧ pc_cl 5 (pc_pow s 2) ∧ ∀ e, pc_cl 7 (pc_pow s e) := by
  have hu := (hS s hs).2
  obtain ⟨c, hc⟩ := pc_cert (pc_inL hS H [] hs)
  obtain ⟨_, _, e12, c2, c7⟩ := pc_one_use hc
  have pw : ∀ n, pc_pow (pc_ph [] s) n = pc_nz (pc_pow s n) := fun n => (pc_ph_pow [] hu n).symm
  refine ⟨?_, ?_, fun e => ?_⟩
  · rw [pw] at e12
    have d : pc_dt (pc_pow s 12) = 1 := pc_dt_sq hu 6
    rw [pc_nz_pos d] at e12
    exact e12
  · rw [pw] at c2
    exact pc_cl_unnz c2
  · have c := c7 e
    rw [pw] at c
    exact pc_cl_unnz c
theorem pc_W2_inv {a b : pc_M} (ha : pc_pow a 12 = pc_1) (hb : pc_pow b 12 = pc_1) {x : pc_M} (hx : pc_W [a, b] x) : ∃ y, pc_W [a, b] y ∧ pc_mul x y = pc_1 ∧ pc_mul y x = pc_1 := by
  refine pc_W_ind (Q := fun x => ∃ y, pc_W [a, b] y ∧ pc_mul x y = pc_1 ∧ pc_mul y x = pc_1) ?_ ?_ hx
  · exact ⟨pc_1, pc_W_1 _, pc_one_mul _, pc_one_mul _⟩
  · intro s hs z _ hz
    obtain ⟨y, wy, e1, e2⟩ := hz
    have h12 : pc_pow s 12 = pc_1 := by
      rcases List.mem_cons.mp hs with e | e
      · rw [e]
        exact ha
      · rw [List.mem_singleton.mp e]
        exact hb
    have l : pc_mul s (pc_pow s 11) = pc_1 := h12
    have r : pc_mul (pc_pow s 11) s = pc_1 := by
      have c := pc_pow_add s 11 1
      rw [pc_pow_one] at c
      rw [← c]
      exact h12
    refine ⟨pc_mul y (pc_pow s 11), pc_W_mul wy (pc_W_pow (pc_W_mem hs) 11), ?_, ?_⟩
    · rw [pc_assoc, ← pc_assoc z, e1, pc_one_mul, l]
    · rw [pc_assoc, ← pc_assoc (pc_pow s 11), r, pc_one_mul, e2]
/-- an inverse is the adjugate -/
theorem pc_adj_un {x y : pc_M} (h : pc_dt x = 1) (e : pc_mul x y = pc_1) : pc_adj x = y := by
  have z : pc_mul (pc_adj x) (pc_mul x y) = pc_mul (pc_adj x) pc_1 := by rw [e]
  rw [← pc_assoc, pc_adj_mul h, pc_one_mul, pc_mul_one] at z
  exact z.symm
theorem pc_ws_pre {ks : List Nat} {a b : pc_M} (ua : pc_U a) (ub : pc_U b) {y : pc_M} (hy : y ∈ pc_ws (pc_ph ks a) (pc_ph ks b)) : ∃ x, pc_W [a, b] x ∧ pc_ph ks x = y := by
  have wa : pc_W [a, b] a := pc_W_mem List.mem_cons_self
  have wb : pc_W [a, b] b := pc_W_mem (List.mem_cons_of_mem _ List.mem_cons_self)
  have uab := pc_U_mul ua ub
  have uba := pc_U_mul ub ua
  unfold pc_ws at hy
  rw [← pc_ph_mul ks ua ub, ← pc_ph_mul ks ub ua, ← pc_ph_mul ks uab ua, ← pc_ph_mul ks uba ub, ← pc_ph_mul ks ua ua, ← pc_ph_mul ks ub ub] at hy
  simp only [List.mem_cons, List.not_mem_nil, or_false] at hy
  rcases hy with e | e | e | e | e | e | e | e | e <;> rw [e]
  · exact ⟨pc_1, pc_W_1 _, pc_ph_1 ks⟩
  · exact ⟨a, wa, rfl⟩
  · exact ⟨b, wb, rfl⟩
  · exact ⟨_, pc_W_mul wa wb, rfl⟩
  · exact ⟨_, pc_W_mul wb wa, rfl⟩
  · exact ⟨_, pc_W_mul (pc_W_mul wa wb) wa, rfl⟩
  · exact ⟨_, pc_W_mul (pc_W_mul wb wa) wb, rfl⟩
  · exact ⟨_, pc_W_mul wa wa, rfl⟩
  · exact ⟨_, pc_W_mul wb wb, rfl⟩
/-- N of them that differ -/
theorem pc_pick {ks : List Nat} {a b : pc_M} (ua : pc_U a) (ub : pc_U b) {N : Nat} (hn : N ≤ (pc_dd (pc_ws (pc_ph ks a) (pc_ph ks b)) []).length) : ∃ d : Nat → pc_M, (∀ i, i < N → pc_W [a, b] (d i)) ∧ ∀ i j, i < j → j < N → d i ≠ d j := by
  have nd := pc_dd_nd (pc_ws (pc_ph ks a) (pc_ph ks b)) [] List.nodup_nil
  have mem : ∀ y, y ∈ pc_dd (pc_ws (pc_ph ks a) (pc_ph ks b)) [] → ∃ x, pc_W [a, b] x ∧ pc_ph ks x = y := by
    intro y hy
    rcases pc_dd_mem _ _ hy with c | c
    · exact pc_ws_pre ua ub c
    · exact absurd c List.not_mem_nil
  generalize pc_dd (pc_ws (pc_ph ks a) (pc_ph ks b)) [] = D at hn nd mem
  have ch : ∀ i, ∃ x, ∀ h : i < D.length, pc_W [a, b] x ∧ pc_ph ks x = D[i] := by
    intro i
    by_cases h : i < D.length
    · obtain ⟨x, hx, e⟩ := mem D[i] (List.getElem_mem h)
      exact ⟨x, fun _ => ⟨hx, e⟩⟩
    · exact ⟨pc_1, fun c => absurd c h⟩
  obtain ⟨d, hd⟩ := Classical.axiomOfChoice ch
  refine ⟨d, fun i hi => (hd i (by omega)).1, fun i j hij hj e => ?_⟩
  have hi' : i < D.length := by omega
  have hj' : j < D.length := by omega
  have e1 := (hd i hi').2
  have e2 := (hd j hj').2
  rw [e] at e1
  have e3 : D[i] = D[j] := e1.symm.trans e2
  exact (List.pairwise_iff_getElem.mp nd) i j hi' hj' hij e3
theorem pc_W_T' {S : List pc_M} {x : pc_M} (hx : pc_W S (pc_T x)) : pc_W (S.map pc_T) x := by
  have e : (S.map pc_T).map pc_T = S := by
    rw [List.map_map]
    have f : pc_T ∘ pc_T = id := rfl
    rw [f, List.map_id]
  rw [← e] at hx
  have h := pc_W_T hx
  exact h
theorem pc_fk_use {F : pc_M} (h : pc_fk F = true) {g : pc_M} (hg : pc_prs F g = true) : pc_cl 24 g := by
  unfold pc_fk at h
  rw [Bool.and_eq_true] at h
  have e := pc_eqb_eq h.1
  rw [e] at hg
  exact pc_fok_cl h.2 hg
theorem pc_CC {S : List pc_M} (hS : ∀ s, s ∈ S → pc_le 1 s ∧ pc_U s) (H : pc_H S) : ∀ x, pc_W S x → pc_le 999 x := by
  by_cases hc : ∀ s, s ∈ S → ∀ r, r ∈ S → pc_mul s r = pc_mul r s
  · exact pc_AB hS H hc (fun s hs => pc_gens hS H hs)
  · obtain ⟨a, b, ha, hb, hab⟩ : ∃ a b, a ∈ S ∧ b ∈ S ∧ pc_mul a b ≠ pc_mul b a := by
      refine Classical.byContradiction fun c => hc fun s hs r hr => Classical.byContradiction fun e => c ⟨s, r, hs, hr, e⟩
    have ua := (hS a ha).2
    have ub := (hS b hb).2
    obtain ⟨c, hcert⟩ := pc_cert (pc_inL hS H [] ha)
    obtain ⟨r42, rep, _, _, _⟩ := pc_one_use hcert
    generalize hks : c.1 = ks at rep
    generalize c.2 = r at rep r42
    have rep' : pc_ph ks a = pc_R.getD r pc_1 := rep
    have hL := pc_inL hS H ks hb
    have ok := List.all_eq_true.mp (pc_two r r42) _ hL
    have fko : ∀ F, F ∈ pc_fs.getD r [] → pc_fk F = true := pc_fs_mem r r42
    generalize pc_fs.getD r [] = fs at ok fko
    rw [← rep'] at ok
    have a12 := (pc_gens hS H ha).1
    have b12 := (pc_gens hS H hb).1
    have wa := pc_W_mem ha
    have wb := pc_W_mem hb
    have ua11 := pc_U_pow ua 11
    have ub11 := pc_U_pow ub 11
    have adja : pc_adj (pc_ph ks a) = pc_ph ks (pc_pow a 11) := by
      refine pc_adj_un (pc_ph_dt ks ua) ?_
      rw [← pc_ph_mul ks ua ua11]
      have e : pc_mul a (pc_pow a 11) = pc_1 := a12
      rw [e, pc_ph_1]
    have adjb : pc_adj (pc_ph ks b) = pc_ph ks (pc_pow b 11) := by
      refine pc_adj_un (pc_ph_dt ks ub) ?_
      rw [← pc_ph_mul ks ub ub11]
      have e : pc_mul b (pc_pow b 11) = pc_1 := b12
      rw [e, pc_ph_1]
    unfold pc_ok at ok
    rw [adja, adjb, ← pc_ph_mul ks ua ub, ← pc_ph_mul ks ub ua, ← pc_ph_mul ks ua ub11, ← pc_ph_mul ks ua11 ub11, ← pc_ph_mul ks (pc_U_mul ua ub) (pc_U_mul ua11 ub11)] at ok
    rw [pc_notbad hS H ks (pc_W_mul wa wb), pc_notbad hS H ks (pc_W_mul wa (pc_W_pow wb 11)), pc_notbad hS H ks (pc_W_mul (pc_W_mul wa wb) (pc_W_mul (pc_W_pow wa 11) (pc_W_pow wb 11)))] at ok
    rw [Bool.false_or, Bool.false_or, Bool.false_or, Bool.or_eq_true] at ok
    have ok' : pc_fin (pc_ph ks a) (pc_ph ks b) fs = true := by
      rcases ok with e | e
      · exfalso
        have e2 := pc_cjs_inj ks (pc_eqb_eq e)
        have dd : pc_dt (pc_mul a b) = pc_dt (pc_mul b a) := by
          rw [pc_dt_mul, pc_dt_mul, Int.mul_comm]
        exact hab (pc_nz_inj (pc_U_mul ua ub) dd e2)
      · exact e
    clear ok
    unfold pc_fin at ok'
    rw [Bool.or_eq_true] at ok'
    have sub : ∀ s, s ∈ [a, b] → s ∈ S := by
      intro s hs
      rcases List.mem_cons.mp hs with e | e
      · rw [e]
        exact ha
      · rw [List.mem_singleton.mp e]
        exact hb
    have subW : ∀ x, pc_W [a, b] x → pc_W S x := fun x hx => pc_W_sub (fun s hs => pc_W_mem (sub s hs)) hx
    have uW : ∀ x, pc_W [a, b] x → pc_U x := fun x hx => pc_W_U (fun s hs => (hS s (sub s hs)).2) hx
    have inv := fun x (hx : pc_W [a, b] x) => pc_W2_inv a12 b12 hx
    have far : ∀ {C N : Nat} (d : Nat → pc_M), (∀ x, pc_W [a, b] x → pc_cl C x) → C ≤ 1000 → (∀ i, i < N → pc_W [a, b] (d i)) → (∀ i j, i < j → j < N → d i ≠ d j) → ∀ i j, i < j → j < N → ¬ pc_cg (d i) (d j) := by
      intro C N d kc hC dk dd i j hij hj hcg
      refine dd i j hij hj (pc_cg_eq hcg ?_ ?_)
      · exact pc_le_mono (pc_cl_le (kc _ (dk i (by omega)))) (by omega)
      · exact pc_le_mono (pc_cl_le (kc _ (dk j hj))) (by omega)
    rcases ok' with f | f
    · rw [Bool.and_eq_true] at f
      obtain ⟨F, hF, pF⟩ := List.any_eq_true.mp f.2
      rw [Bool.and_eq_true] at pF
      have n7 := Nat.le_of_ble_eq_true f.1
      obtain ⟨d, dk, dd⟩ := pc_pick ua ub n7
      have kc : ∀ x, pc_W [a, b] x → pc_cl 24 x := by
        intro x hx
        refine pc_ph_uncl ks (pc_fk_use (fko F hF) ?_)
        refine pc_W_ind (Q := fun x => pc_prs F (pc_ph ks x) = true) ?_ ?_ hx
        · rw [pc_ph_1]
          exact pc_prs_1 F
        · intro s hs y wy hy
          rw [pc_ph_mul ks (hS s (sub s hs)).2 (uW y wy)]
          refine pc_prs_mul ?_ hy
          rcases List.mem_cons.mp hs with e | e
          · rw [e]
            exact pF.1
          · rw [List.mem_singleton.mp e]
            exact pF.2
      exact pc_RL hS H (fun x => pc_W [a, b] x) (pc_W_1 _) (fun x y hx hy => pc_W_mul hx hy) (fun x hx => let ⟨y, wy, e, _⟩ := inv x hx; ⟨y, wy, e⟩) subW kc d dk (far d kc (by decide) dk dd) (J := 5) (by decide) (by decide) (by decide)
    · rw [Bool.and_eq_true, Bool.and_eq_true, Bool.and_eq_true, Bool.or_eq_true] at f
      obtain ⟨⟨⟨n6, one⟩, cls⟩, cr⟩ := f
      have n6 := Nat.le_of_ble_eq_true n6
      obtain ⟨d, dk, dd⟩ := pc_pick ua ub n6
      have inD : ∀ x, pc_W [a, b] x → pc_ph ks x ∈ pc_dd (pc_ws (pc_ph ks a) (pc_ph ks b)) [] := by
        generalize pc_dd (pc_ws (pc_ph ks a) (pc_ph ks b)) [] = D at one cls
        intro x hx
        refine pc_W_ind (Q := fun x => pc_ph ks x ∈ D) ?_ ?_ hx
        · obtain ⟨y, my, ey⟩ := List.any_eq_true.mp one
          rw [pc_ph_1, pc_eqb_eq ey]
          exact my
        · intro s hs y wy hy
          rw [pc_ph_mul ks (hS s (sub s hs)).2 (uW y wy)]
          have q := List.all_eq_true.mp cls _ hy
          rw [Bool.and_eq_true] at q
          rcases List.mem_cons.mp hs with e | e
          · rw [e]
            obtain ⟨z, mz, ez⟩ := List.any_eq_true.mp q.1
            rw [pc_eqb_eq ez]
            exact mz
          · rw [List.mem_singleton.mp e]
            obtain ⟨z, mz, ez⟩ := List.any_eq_true.mp q.2
            rw [pc_eqb_eq ez]
            exact mz
      rcases cr with cr | cr
      · have kc : ∀ x, pc_W [a, b] x → pc_cl 4 x := fun x hx => pc_ph_uncl ks (pc_clb_ok (List.all_eq_true.mp cr _ (inD x hx)))
        exact pc_RL hS H (fun x => pc_W [a, b] x) (pc_W_1 _) (fun x y hx hy => pc_W_mul hx hy) (fun x hx => let ⟨y, wy, e, _⟩ := inv x hx; ⟨y, wy, e⟩) subW kc d dk (far d kc (by decide) dk dd) (J := 7) (by decide) (by decide) (by decide)
      · have kc : ∀ x, pc_W [a, b] (pc_T x) → pc_cl 4 x := by
          intro x hx
          have c := pc_ph_unrw ks (pc_clb_ok (List.all_eq_true.mp cr _ (inD _ hx)))
          rw [pc_T_T] at c
          exact c
        have hST : ∀ s, s ∈ S.map pc_T → pc_le 1 s ∧ pc_U s := by
          intro s hs
          obtain ⟨t, ht, e⟩ := List.mem_map.mp hs
          rw [← e]
          refine ⟨pc_le_T (hS t ht).1, ?_⟩
          unfold pc_U
          rw [pc_dt_T]
          exact (hS t ht).2
        have q := pc_RL hST (pc_H_T H) (fun x => pc_W [a, b] (pc_T x)) (pc_W_1 _) (fun x y hx hy => by
          show pc_W [a, b] (pc_T (pc_mul x y))
          rw [pc_T_mul]
          exact pc_W_mul hy hx) (fun x hx => by
          obtain ⟨y, wy, _, e⟩ := inv _ hx
          refine ⟨pc_T y, wy, ?_⟩
          have e2 : pc_T (pc_mul y (pc_T x)) = pc_T pc_1 := by rw [e]
          rw [pc_T_mul, pc_T_T] at e2
          exact e2) (fun x hx => pc_W_T' (subW _ hx)) kc (fun i => pc_T (d i)) (N := 6) (fun i hi => dk i hi) (fun i j hij hj hcg => by
          refine dd i j hij hj ?_
          have l1 := pc_le_mono (pc_cl_le (kc (pc_T (d i)) (dk i (by omega)))) (m := 1000000000) (by omega)
          have l2 := pc_le_mono (pc_cl_le (kc (pc_T (d j)) (dk j hj))) (m := 1000000000) (by omega)
          have e : pc_T (d i) = pc_T (d j) := pc_cg_eq hcg l1 l2
          have e2 : pc_T (pc_T (d i)) = pc_T (pc_T (d j)) := by rw [e]
          exact e2) (J := 7) (by decide) (by decide) (by decide)
        intro x hx
        have w : pc_W (S.map pc_T) (pc_T x) := pc_W_T' hx
        exact pc_le_T (q _ w)
end PCF
