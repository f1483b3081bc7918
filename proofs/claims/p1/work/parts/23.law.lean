/-! THE LAW -/
section AXLAW
theorem dL_ret : decode code 1372 = .ok (.ireturn, 1) := by decide +kernel
theorem dL_364 : decode code 364 = .ok (.invokestatic 38, 3) := by decide +kernel
theorem ax_ends_ok {r : Option (List ax_S)} (h : ax_ends r = true) : ∃ l, r = some l ∧ ∀ S ∈ l, ax_lend S = true := by
  unfold ax_ends at h
  split at h
  · rename_i l2
    exact ⟨l2, rfl, fun S hS => List.all_eq_true.mp h S hS⟩
  · cases h
variable {p : Program} {l : Launch} {e : Env} {s : State} {m : MethodId} {below : List Frame} {meth : Method} {c : Code} {D : va_G} {b L : Nat} {γ : Nat → Int} {pv : List Value} {xs : Nat → Int32}
abbrev ax_A (s : State) : Nat → Prop := fun q => s.heap.size ≤ q
theorem ax_lret (C0 : lw_At p s m meth c b L xs) {S : ax_S} (h : ax_lend S = true) : ax_G p l e room_1 s m #[Value.ref b] below meth c (lw_Z below #[Value.ref b] s) D (ax_A s) b γ pv 7 S := by
  obtain ⟨hx, hb, hr, hml, hown, hts, hX, hbl, hlocks, hgv⟩ := C0
  obtain ⟨pc, lv, st, hp, pr, cn⟩ := S
  unfold ax_lend at h
  simp only [Bool.and_eq_true, decide_eq_true_eq] at h
  obtain ⟨rfl, ⟨h1, h2⟩, h3⟩ := h
  intro cv cs ws tys ls H locs M hls hK hP hD hS
  split at h3
  · rename_i a o
    simp only [decide_eq_true_eq] at h3
    obtain ⟨v, cr, rfl, e1, e2⟩ := ax_popk M.2.2.1
    obtain ⟨x, rfl, e3⟩ := ax_ok_i e1.1
    cases cr with
    | cons => exact e2.elim
    | nil =>
    have e4 : x = 1 := by
      have h4 := e3.1
      rw [h3] at h4
      have h5 : (1 : Int32).toInt = 1 := by decide
      dsimp only at h4
      exact Int32.toInt_inj.mp (by omega)
    subst e4
    refine va_forget (fun q hq => hS.2.2 q hq) ?_
    refine W.widen (k := 600002) (n := 7302232) h1 h2 ?_
    exact lw_ret hx hb hr hlocks dL_ret
  · cases h3
theorem ax_lawX (C0 : lw_At p s m meth c b L xs) (L2 : Nat) (hsc : 0 < L2 → L2 = L + 1 ∧ ∀ (j : Nat) (v : Value), pv[j]? = some v → v = .int (xs (γ 0 + j).toNat)) : ax_X p room_1 s m #[Value.ref b] meth c (ax_A s) b γ pv 13 false 7 L2 600002 7302232 9 code xs := by
  obtain ⟨hx, hb, hr, hml, hown, hts, hX, hbl, hlocks, hgv⟩ := C0
  refine ⟨⟨hx, hb, hml, hown, fun w hw => hts w (List.mem_filter.mp hw).1⟩, fun h => absurd h (by decide), ?_, va_AO.of (hts _ (List.mem_of_getElem? ax_aoin)), fun _ h => h, ⟨by decide, by decide, by decide, by decide⟩, fun h => ?_⟩
  · intro w hw
    have h1 : w ∈ lw_tbl := by
      have h2 := hw
      rw [ax_nestin] at h2
      obtain ⟨i, -, hi⟩ := List.mem_filterMap.mp h2
      exact List.mem_of_getElem? hi
    exact va_Nw.of (ax_nest_tab w hw) (hts w h1)
  · obtain ⟨rfl, h2⟩ := hsc h
    exact ⟨hX, hbl, Nat.not_le.mpr hbl, h2⟩
theorem ax_from (C0 : lw_At p s m meth c b L xs) {L2 f : Nat} {S : ax_S} (X : ax_X p room_1 s m #[Value.ref b] meth c (ax_A s) b γ pv 13 false 7 L2 600002 7302232 9 code xs) (h : ax_ends (ax_run (ax_lstp L2) (fun pc => pc == 1372) f [S] []) = true) :
    ax_G p l e room_1 s m #[Value.ref b] below meth c (lw_Z below #[Value.ref b] s) D (ax_A s) b γ pv 7 S := by
  obtain ⟨l2, h1, h2⟩ := ax_ends_ok h
  exact (ax_run_ok X (ax_con l 9) _ _ _ _ h1 (fun S hS => ax_lret C0 (h2 S hS))).1 S List.mem_cons_self
theorem ax_lawout (C0 : lw_At p s m meth c b L xs) (hfl : l.stackTraces = false) (GP : ax_G p l e room_1 s m #[Value.ref b] below meth c (lw_Z below #[Value.ref b] s) D (ax_A s) b γ pv 7 ax_SP) :
    ax_G p l e room_1 s m #[Value.ref b] below meth c (lw_Z below #[Value.ref b] s) D (ax_A s) b γ pv 7 ax_SO := by
  have X := ax_lawX (pv := pv) (γ := γ) C0 0 (fun h => absurd h (by omega))
  obtain ⟨S0, -, hnest, hao, hA, -, -⟩ := X
  obtain ⟨hx, hb, hr, hml, hown, hts, hX, hbl, hlocks, hgv⟩ := C0
  intro cv cs ws tys ls H locs M hls hK hP hD hS
  obtain ⟨v1, cr, rfl, e1, e2⟩ := ax_popk M.2.2.1
  obtain ⟨v2, cr, rfl, e3, e4⟩ := ax_popk e2
  obtain ⟨v3, cr, rfl, e5, e6⟩ := ax_popk e4
  cases cr with
  | cons => exact e6.elim
  | nil =>
  obtain ⟨o3, rfl, -⟩ := ax_ok_r e1.1
  obtain ⟨p0, rfl, -⟩ := ax_ok_i e3.1
  obtain ⟨a, rfl, ra⟩ := ax_ok_r e5.1
  obtain ⟨afs, h0, h14⟩ : ∃ afs, ax_hpH[0]? = some (.inl (9, afs)) ∧ afs[14]? = some (.inl ((0, 0), none)) := ⟨_, rfl, rfl⟩
  obtain ⟨w, e7, e8⟩ := ax_all2_get M.2.2.2 h0
  have e9 := ax_at ra e7
  obtain ⟨vs, e10, e11⟩ := ax_cok_o e8
  rw [e10] at e9
  subst e9
  obtain ⟨v14, g1, g2⟩ := ax_all2_get e11 h14
  obtain ⟨x14, rfl, g3⟩ := ax_ok_i g2
  have g4 : x14 = 0 := by
    have h5 : (0 : Int32).toInt = 0 := by decide
    have h6 := g3.1
    dsimp only at h6
    exact Int32.toInt_inj.mp (by omega)
  subst g4
  have hsf := flat_of_before _ hgv
  have hex : (Cond.exactly (.string "SymmetryHouse" 170) "java/lang/String").before #[Value.ref b] s = true := hsf _ (by decide +kernel)
  obtain ⟨sa, -, -, -, hsa, -⟩ := Cond.exactly_spec hex
  have hstr : vk_R RX11 170 "no such byte" sa s := vk_R.of (A := #[Value.ref b]) (hts _ (by decide +kernel)) hsa
  have hAA : ∀ q : Nat, q < s.heap.size → ¬ ax_A s q := fun q h1 h2 => absurd h1 (Nat.not_lt.mpr h2)
  have hini : (Cond.initialized Bundle.tN).before #[Value.ref b] s = true := hts _ (by decide +kernel)
  have hU : vx_Zq Bundle.tN "UNASSIGNED_STACK" Bundle.steD (ax_A s) s s.heap := vx_Zqof (args := #[Value.ref b]) (hts _ (by decide +kernel)) hini (hsf _ (by decide +kernel)) hAA
  have hN : vx_Zq Bundle.tN "SUPPRESSED_SENTINEL" Bundle.listD (ax_A s) s s.heap := vx_Zqof (args := #[Value.ref b]) (hts _ (by decide +kernel)) hini (hsf _ (by decide +kernel)) hAA
  have hF : ∀ q, va_A ws H.size q → ax_A s q := by
    intro q hq
    rcases hq with ⟨k, e0, hq⟩ | hq
    · exact hD.2 k _ hq
    · exact Nat.le_trans hS.1 hq
  have hgd : GoodIn ax_W (.codeWith yL_out cL_out 4 (some .int) [(0, 9, 12, 13)] :: ax_W) := by
    intro w hw
    have h1 : w ∈ ax_W := by
      rcases List.mem_cons.mp hw with rfl | h
      · exact ax_in _ ax_loutcode (by decide)
      · exact h
    exact ⟨h1, good_of_word (List.mem_filter.mp h1).2⟩
  have hth : ∀ w ∈ ax_thB, va_Nw w s := fun w hw => va_Nw.of (ax_thB_tab w hw) (hts w (ax_thB_in w hw))
  have hsg : ∀ sig, parseMethodDescriptor yL_out.desc = some sig → 3 = sig.parameters.length := by
    intro sig h
    have h9 : (parseMethodDescriptor yL_out.desc).map (fun d => d.parameters.length) = some 3 := by decide +kernel
    rw [h] at h9
    exact (Option.some.inj h9).symm
  refine va_calli (vx_runSW (As := [.ref a, .int p0, .ref o3]) (rest := []) (hh := [(0, 9, 12, 13)]) (bytes := cL_out) (maxL := 4) (ret := some .int) S0 (ax_lout_c l hfl D a o3 p0 ws tys H.size sa vs e7 g1)
    ⟨⟨rfl, rfl, by decide, by decide, pay_in S0.2.2.2.2 hgd, List.mem_cons_self⟩, S0.2.2.2.2 _ (ax_in _ ax_loutcode (by decide)), S0.2.2.2.2 _ ax_w7, by decide, hsg, S0.2.2.2.2 _ ax_w5, S0.2.2.2.2 _ ax_w6⟩
    ⟨ax_blindO, fun U hU2 hW => ⟨⟨rfl, by rw [hU2], by rw [hU2]; exact hP, va_K.moved hW.alike hK, hD.weaken (fun _ _ _ _ => trivial), ax_nest_warm hW hnest, va_AO.moved hW.alike hao⟩, ax_thB_warm hW hth, vk_R.warm hW hstr, by rw [hU2]; exact vx_Zq.moved hW.alike ((hU.kept hS.2.1).narrow hF), by rw [hU2]; exact vx_Zq.moved hW.alike ((hN.kept hS.2.1).narrow hF)⟩⟩
    rfl rfl hls.1 rfl (lv_room (Nat.le_of_ble_eq_true rfl)) dL_364 ⟨by decide, by decide⟩) hS (fun q _ h => hF q h) hF (fun r u t H1 locs1 ht hal hr1 hB hz hk hS1 => ?_)
  subst hr1
  obtain ⟨hP1, hK1⟩ := hB
  rw [ht] at hP1
  exact GP cv [.int 1] ws tys ls H1 locs1 ⟨M.1, M.2.1, ⟨⟨⟨⟨by decide, by decide⟩, fun _ _ h => by cases h⟩, trivial⟩, trivial⟩, M.2.2.2⟩ hls hK hP1 hD hS1
theorem ax_D (hts : ∀ w ∈ lw_tbl, w.before #[Value.ref b] s = true) : ∃ D : va_G, va_K D vwCl [] s := by
  have hW : ∀ w ∈ ax_W, w.before #[Value.ref b] s = true := fun w hw => hts w (List.mem_filter.mp hw).1
  have key : ∀ (k : Nat) (q : vw_C), vwCl[k]? = some q → ∃ (cC : ClassId) (iS : Nat → Nat), u_Kn s q.1 q.2.1 q.2.2 cC iS := by
    intro k q hq
    have hi : Cond.instantiable q.1 q.2.2 ∈ lw_tbl := by
      have h1 : (vwCl.all fun q => lw_tbl.contains (Cond.instantiable q.1 q.2.2)) = true := by decide +kernel
      have h2 := List.all_eq_true.mp h1 q (List.mem_of_getElem? hq)
      simpa using h2
    exact u_known (n := q.2.2) hW (ax_cl k q hq).1 (hts _ hi)
  classical
  refine ⟨(fun k => if h : ∃ q, vwCl[k]? = some q then (key k h.choose h.choose_spec).choose else 0, fun k => if h : ∃ q, vwCl[k]? = some q then (key k h.choose h.choose_spec).choose_spec.choose else fun _ => 0), ?_, fun k q h => by simp at h⟩
  intro k q hq
  have h : ∃ q, vwCl[k]? = some q := ⟨q, hq⟩
  have e : h.choose = q := Option.some.inj (h.choose_spec.symm.trans hq)
  have h2 := (key k h.choose h.choose_spec).choose_spec.choose_spec
  dsimp only
  rw [dif_pos h, dif_pos h]
  rw [← e]
  exact h2
abbrev ax_pv (xs : Nat → Int32) : List Value := (List.range 8).map (fun j => Value.int (xs j))
theorem ax_pv_ok (j : Nat) (v : Value) (h : (ax_pv xs)[j]? = some v) : v = .int (xs ((0 : Int) + (j : Int)).toNat) := by
  rw [List.getElem?_map] at h
  obtain ⟨i, h1, h2⟩ := Option.map_eq_some_iff.mp h
  have h3 : i = j := by
    have h4 := (List.getElem?_eq_some_iff.mp h1)
    obtain ⟨h5, h6⟩ := h4
    rw [List.getElem_range] at h6
    exact h6.symm
  subst h3
  rw [show ((0 : Int) + (i : Int)).toNat = i by omega]
  exact h2.symm
theorem ax_top_ok {γ : Nat → Int} {R : List Nat} (x : Int32) : ax_ok γ R (.inl ((-2147483648, 2147483647), none)) (.int x) := ax_topN_ok γ x
end AXLAW
