/-! THE LAW: from its first state on, every script comes to true -/
section FIN
theorem pl_choose {α : Type} : ∀ (l : List α) (P : α → Nat → Prop), (∀ q ∈ l, ∃ t, P q t) → ∃ sa : List Nat, sa.length = l.length ∧ ∀ (k : Nat) (q : α) (t : Nat), l[k]? = some q → sa[k]? = some t → P q t
  | [], _, _ => ⟨[], rfl, fun k q t h _ => by simp at h⟩
  | a :: l, P, h => by
    obtain ⟨t, ht⟩ := h a List.mem_cons_self
    obtain ⟨sa, h1, h2⟩ := pl_choose l P (fun q hq => h q (List.mem_cons_of_mem _ hq))
    refine ⟨t :: sa, by simp [h1], fun k q t' e1 e2 => ?_⟩
    cases k with
    | zero =>
      simp at e1 e2
      subst e1 e2
      exact ht
    | succ k => exact h2 k q t' (by simpa using e1) (by simpa using e2)
def pl_tm (q : (String × String) × (FieldType × List Int)) : Term := .static "SymmetryHouse" q.1.1 q.1.2
def pl_fl : List Cond := flatC (Jvm.Cond.and given_1 narrow_1)
def pl_el (q : (String × String) × (FieldType × List Int)) (j : Nat) : Cond := match q.2.1 with
  | .long => .eq (.elem (pl_tm q) (.int (Int32.ofNat j))) (.long (Int64.ofInt (q.2.2.getD j 0)))
  | _ => .eq (.elem (pl_tm q) (.int (Int32.ofNat j))) (.int (Int32.ofInt (q.2.2.getD j 0)))
set_option maxRecDepth 100000 in
theorem pl_sk : (pm_ss.all fun q => pl_fl.contains (.arrayOf (pl_tm q) q.2.1) && (pl_fl.contains (.eq (.length (pl_tm q)) (.int (Int32.ofNat q.2.2.length))) && (lw_tbl.contains (.laysStatic "SymmetryHouse" q.1.1 q.1.2) && (decide (q.2.2.length < 2 ^ 31) && (List.range q.2.2.length).all (fun j => pl_fl.contains (pl_el q j)))))) = true := by decide +kernel
theorem pl_ini : Cond.initialized "SymmetryHouse" ∈ lw_tbl := by decide +kernel
variable {p : Program} {l : Launch} {e : Env} {s : State} {m : MethodId} {below : List Frame} {meth : Method} {c : Code} {D : va_G} {b L : Nat} {xs : Nat → Int32} {sa wa : List Nat}
abbrev ax_A (s : State) : Nat → Prop := fun q => s.heap.size ≤ q
theorem pl_St (C0 : lw_At p s m meth c b L xs) : ∃ sa, pm_St sa (ax_A s) s s.heap := by
  obtain ⟨hx, hb, hr, hml, hown, hts, hX, hbl, hlocks, hgv⟩ := C0
  have hfl := flat_of_before _ hgv
  have hA : ∀ a : Nat, a < s.heap.size → ¬ ax_A s a := fun a h1 h2 => absurd h1 (Nat.not_lt.mpr h2)
  have key : ∀ q ∈ pm_ss, ∃ t, va_Z "SymmetryHouse" q.1.1 q.1.2 (.ref t) (ax_A s) s s.heap ∧ va_T q.2.1 t q.2.2.length (fun j => pm_tv q.2.1 (q.2.2.getD j 0)) (ax_A s) s s.heap := by
    intro q hq
    have h := List.all_eq_true.mp pl_sk q hq
    simp only [Bool.and_eq_true, decide_eq_true_eq] at h
    obtain ⟨h1, h2, h3, h4, h5⟩ := h
    have c1 : Cond.arrayOf (pl_tm q) q.2.1 ∈ pl_fl := by simpa using h1
    have c2 : Cond.eq (.length (pl_tm q)) (.int (Int32.ofNat q.2.2.length)) ∈ pl_fl := by simpa using h2
    have c3 : Cond.laysStatic "SymmetryHouse" q.1.1 q.1.2 ∈ lw_tbl := by simpa using h3
    obtain ⟨t, g1, g2⟩ := va_Tof (args := #[Value.ref b]) (tm := pl_tm q) (ty := q.2.1) (N := q.2.2.length) (f := fun j => pm_tv q.2.1 (q.2.2.getD j 0)) (A := ax_A s) h4 (hfl _ c1) (va_eqt (hfl _ c2)) (fun j hj => by
      have h6 := List.all_eq_true.mp h5 j (List.mem_range.mpr hj)
      have c4 : pl_el q j ∈ pl_fl := by simpa using h6
      have h7 := hfl _ c4
      unfold pl_el at h7
      unfold pm_tv
      split at h7
      · rename_i hl
        rw [hl]
        exact va_eqtl h7
      · rename_i hne
        split
        · rename_i hl
          exact absurd hl hne
        · exact va_eqt h7) hA
    exact ⟨t, va_Zref (hts _ c3) (hts _ pl_ini) g1 hA, g2⟩
  obtain ⟨sa, h1, h2⟩ := pl_choose pm_ss (fun q t => va_Z "SymmetryHouse" q.1.1 q.1.2 (.ref t) (ax_A s) s s.heap ∧ va_T q.2.1 t q.2.2.length (fun j => pm_tv q.2.1 (q.2.2.getD j 0)) (ax_A s) s s.heap) key
  exact ⟨sa, h1, h2⟩
theorem pl_nw (C0 : lw_At p s m meth c b L xs) : (∀ w ∈ ax_nest, va_Nw w s) ∧ (∀ w ∈ pm_nest, va_Nw w s) := by
  obtain ⟨hx, hb, hr, hml, hown, hts, hX, hbl, hlocks, hgv⟩ := C0
  refine ⟨fun w hw => ?_, fun w hw => ?_⟩
  · have h1 : w ∈ lw_tbl := by
      have h2 := hw
      rw [ax_nestin] at h2
      obtain ⟨i, -, hi⟩ := List.mem_filterMap.mp h2
      exact List.mem_of_getElem? hi
    exact va_Nw.of (ax_nest_tab w hw) (hts w h1)
  · have h1 : w ∈ lw_tbl := by
      have h2 := hw
      rw [pm_nestin] at h2
      obtain ⟨i, -, hi⟩ := List.mem_filterMap.mp h2
      exact List.mem_of_getElem? hi
    exact va_Nw.of (pm_nest_tab w hw) (hts w h1)
/-- the law as a method that runs on the pure machine -/
theorem pl_X (C0 : lw_At p s m meth c b L xs) (hSt : pm_St sa (ax_A s) s s.heap) {cn : Nat × Nat} (h1 : cn.1 ≤ 601024) (h2 : cn.2 ≤ 7293034) : pm_X p room_1 s m #[Value.ref b] c (ax_A s) b 13 7 (L + 1) (L + 1) 8 code xs sa cn := by
  have nw := pl_nw C0
  obtain ⟨hx, hb, hr, hml, hown, hts, hX, hbl, hlocks, hgv⟩ := C0
  exact ⟨⟨hx, hb, hml, hown, fun w hw => hts w (List.mem_filter.mp hw).1⟩, nw.1, nw.2, va_AO.of (hts _ (List.mem_of_getElem? ax_aoin)), fun _ h => h, ⟨h1, h2, by decide, by decide⟩, hSt, fun _ => ⟨rfl, hX, hbl, Nat.not_le.mpr hbl⟩⟩
abbrev pl_G (p : Program) (l : Launch) (e : Env) (s : State) (m : MethodId) (below : List Frame) (meth : Method) (c : Code) (D : va_G) (b L : Nat) (xs : Nat → Int32) (sa wa : List Nat) (cn : Nat × Nat) (S : pm_S) : Prop := pm_G p l e room_1 s m #[Value.ref b] below meth c (lw_Z below #[Value.ref b] s) D (ax_A s) b 7 (L + 1) xs sa wa cn S
theorem pl_hR {cn : Nat × Nat} (pc : Nat) (lv : pm_L) (st : List pm_V) (σ : pm_H) (i : Instr) (k len : Nat) (o : pm_N) (_ : i = .return_ ∧ k = 0 ∨ i = .ireturn ∧ k = 1 ∨ i = .lreturn ∧ k = 2 ∨ i = .areturn ∧ k = 3) (_ : decode code pc = .ok (i, len)) (hret : pm_ret (some .boolean) k len st = some o) (hG : pm_NG (pm_TerF pl_d) (fun _ _ => False) σ (pl_G p l e s m below meth c D b L xs sa wa cn) o) : pl_G p l e s m below meth c D b L xs sa wa cn (pc, lv, st, σ) := by
  unfold pm_ret at hret
  split at hret
  · split at hret <;> first | (cases hret; exact hG.2.elim) | cases hret
  · cases hret
theorem dL_1343 : decode code 1343 = .ok (.ireturn, 1) := by decide +kernel
theorem dL_1336 : decode code 1336 = .ok (.iinc 4 8, 3) := by decide +kernel
theorem dL_1339 : decode code 1339 = .ok (.goto (-1316), 3) := by decide +kernel
theorem dL_364 : decode code 364 = .ok (.invokestatic 38, 3) := by decide +kernel
/-- its end -/
theorem pl_Z (C0 : lw_At p s m meth c b L xs) {cn : Nat × Nat} (h1 : cn.1 ≤ 601024) (h2 : cn.2 ≤ 7293034) {lv : pm_L} {σ : pm_H} : pl_G p l e s m below meth c D b L xs sa wa cn (1343, lv, [.inl 1], σ) := by
  obtain ⟨hx, hb, hr, hml, hown, hts, hX, hbl, hlocks, hgv⟩ := C0
  intro cv cs ws tys ls H locs M hls hK hP hD hS
  obtain ⟨v, cr, rfl, e1, e2⟩ := ax_popk M.2.1
  obtain ⟨x, rfl, e3⟩ := pm_ok_i e1
  cases cr with
  | cons => exact e2.elim
  | nil =>
  have e4 : x = 1 := by
    have h5 : (1 : Int32).toInt = 1 := by decide
    exact Int32.toInt_inj.mp (by omega)
  subst e4
  refine va_forget (fun q hq => hS.2.2 q hq) ?_
  refine W.widen (k := 601024) (n := 7293034) h1 h2 ?_
  exact lw_ret hx hb hr hlocks dL_1343
/-- the loop's step -/
theorem pl_next (C0 : lw_At p s m meth c b L xs) (hSt : pm_St sa (ax_A s) s s.heap) {cn : Nat × Nat} (h1 : cn.1 ≤ 601024) (h2 : cn.2 ≤ 7293034) {i : Int} {m5 m6 : Option pm_V} {τ : pm_H} (hi : -2147483648 ≤ i + 8 ∧ i + 8 ≤ 2147483647) (h : ∀ l5 : Option pm_V, pl_G p l e s m below meth c D b L xs sa wa cn (23, [some (.inr (.inr (some 0))), some (.inr (.inr (some 1))), some (.inr (.inr (some 77))), some (.inr (.inr (some 111))), some (.inl (i + 8)), m5, m6], [], τ)) : pl_G p l e s m below meth c D b L xs sa wa cn (1336, [some (.inr (.inr (some 0))), some (.inr (.inr (some 1))), some (.inr (.inr (some 77))), some (.inr (.inr (some 111))), some (.inl i), m5, m6], [], τ) := by
  refine pm_T_ok (pl_X C0 hSt h1 h2) (pm_con l 8) (ret := some .boolean) (ex := fun pc => pc == 23) (E := pl_G p l e s m below meth c D b L xs sa wa cn) (fun S _ z => z) pl_hR ?_
  refine pm_T_fold (pm_TerF_mo _) ?_
  unfold pm_F
  rw [if_neg (show ¬ (((1336 : Nat) == 23) = true) from by decide)]
  dsimp only
  rw [dL_1336]
  dsimp only
  refine (⟨trivial, fun c hc _ => ?_⟩ : _ ∧ _)
  cases List.mem_singleton.mp hc
  refine pm_T_fold (pm_TerF_mo _) ?_
  unfold pm_F
  rw [if_neg (show ¬ (((1339 : Nat) == 23) = true) from by decide)]
  dsimp only
  rw [dL_1339]
  dsimp only
  refine (⟨trivial, fun c hc _ => ?_⟩ : _ ∧ _)
  cases List.mem_singleton.mp hc
  show pm_T (fun pc => pc == 23) (pl_G p l e s m below meth c D b L xs sa wa cn) 13 7 (L + 1) code (some .boolean) (pm_TerF 8) (fun _ _ => False) (23, [some (.inr (.inr (some 0))), some (.inr (.inr (some 1))), some (.inr (.inr (some 77))), some (.inr (.inr (some 111))), some (.inl (w32 (i + 8))), m5, m6], [], τ)
  refine pm_T_fold (pm_TerF_mo _) ?_
  unfold pm_F
  rw [if_pos (show (((23 : Nat) == 23) = true) from by decide)]
  have e8 : w32 (i + 8) = i + 8 := w32_id hi
  have h9 := h none
  rw [← e8] at h9
  exact h9
/-- the law's own out: what comes back, and what it cost -/
theorem pl_after {ret : Option FieldType} {rest : List pm_V} {Q0 : pm_Q} {cv : List (Nat × Value)} {st0 cr : List Value} {ws : va_W} {ls : Array Slot} {H : Heap} {locs : List Loc} {ar : Array Value} {cn : Nat × Nat} {mc ms pc : Nat} {lv : pm_L} {A : Nat → Prop} {R : Room} {args : Array Value} {Q : State → Prop} {nL L1 : Nat} (hA : ∀ q, s.heap.size ≤ q → A q)
    (hr : va_Run p l e R s m args below meth c H locs cn.1 cn.2 mc ms (F0 m pc ls st0) cr (pm_Qc b sa L1 xs D Q0 ret ws H.size ar) (va_A ws H.size))
    (hwa : ws.map (fun q => q.1) = wa) (M2 : pm_lvs (pm_RR b ws sa) lv cv) (M3 : ax_all2 (pm_ok (pm_RR b ws sa)) rest cr)
    (hls : lv_has ls nL cv) (hD : va_D A ws) (hS : va_S A s.heap H locs)
    (hG : ∀ r τ, Q0 r τ → pm_G p l e R s m args below meth c Q D A b nL L1 xs sa wa (cn.1 + mc, cn.2 + ms) (pc + 3, lv, pm_rs ret r ++ rest, τ)) : W p l e R s m args below meth c H locs cn.1 cn.2 Q (F0 m pc ls st0) := by
  intro T hT X
  obtain ⟨v, st₀, t, T', Lc, h0, X', hL, e1, e2, ⟨⟨r, τ, v', ws1, tys1, hv, hq, q1, q3, q5, q6, q7⟩, hz, hk⟩, stp⟩ := hr T hT X
  cases hv
  rw [h0] at hz hk
  have hF := pm_AF hA hD hS
  have hR : pm_RR b ws1 sa = pm_RR b ws sa := by
    unfold pm_RR
    rw [q3.2.2.2.2]
  rw [hwa] at q3
  have hS' : va_S A s.heap T'.heap (locs ++ Lc) := ⟨Nat.le_trans hS.1 (by rw [e1]; exact hz), fun q h1 h2 => by rw [e1, hk q (Nat.lt_of_lt_of_le h1 hS.1) (fun z => h2 (hF q z))]; exact hS.2.1 q h1 h2, fun q hq => by
      rcases List.mem_append.mp hq with h | h
      · exact hS.2.2 q h
      · exact hF _ (hL q h)⟩
  obtain ⟨t2, a1, b1⟩ := hG r τ hq cv (v.toList ++ cr) ws1 tys1 ls T'.heap (locs ++ Lc) ⟨by rw [hR]; exact M2, by rw [hR]; exact ax_all2_app (by rw [hR] at q1; exact q1) M3, q3⟩ hls (va_K.moved (show t.vm.Alike s.vm from by rw [← e2]; exact X'.warmed.alike.symm) q6) (by rw [e1]; exact q5) (q7.weaken (fun _ q _ h => hF q.1 h)) hS' T' rfl X'
  exact ⟨t2, stp t2 a1, b1⟩
theorem pl_O (C0 : lw_At p s m meth c b L xs) (hfl : l.stackTraces = false) (hSt : pm_St sa (ax_A s) s s.heap) {cn : Nat × Nat} (h1 : cn.1 + 1 ≤ 601024) (h2 : cn.2 + 6 ≤ 7293034) {lv : pm_L} {k : Int} {σ : pm_H} (hI : pv_I σ) (hJ : pj σ) (hG : ∀ (r : Int) (τ : pm_H), pv_I τ → pj τ → pl_G p l e s m below meth c D b L xs sa wa (cn.1 + 1, cn.2 + 6) (367, lv, [.inl r], τ)) : pl_G p l e s m below meth c D b L xs sa wa cn (364, lv, [.inr (.inr (some 111)), .inl k, .inr (.inr (some 1))], σ) := by
  have X := pl_X (cn := cn) C0 hSt (by omega) (by omega)
  obtain ⟨S0, hnest, hfn, hao, hA, -, -, -⟩ := X
  obtain ⟨hx, hb, hr, hml, hown, hts, hX, hbl, hlocks, hgv⟩ := C0
  intro cv cs ws tys ls H locs M hls hK hP hD hS
  obtain ⟨v1, cr, rfl, e1, e2⟩ := ax_popk M.2.1
  obtain ⟨v2, cr, rfl, e3, e4⟩ := ax_popk e2
  obtain ⟨v3, cr, rfl, e5, e6⟩ := ax_popk e4
  cases cr with
  | cons => exact e6.elim
  | nil =>
  obtain ⟨o3, rfl, ro⟩ := pm_ok_r e1
  obtain ⟨p0, rfl, rp⟩ := pm_ok_i e3
  obtain ⟨a, rfl, ra⟩ := pm_ok_r e5
  have hhp : pm_hps b sa (ws.map (fun q => q.1)) (L + 1) xs σ ws tys := by
    have z := M.2.2
    rw [← z.2.2.2.2] at z
    exact z
  have hsf := flat_of_before _ hgv
  have hex : (Cond.exactly (.string "SymmetryHouse" 170) "java/lang/String").before #[Value.ref b] s = true := hsf _ (by decide +kernel)
  obtain ⟨sx, -, -, -, hsa, -⟩ := Cond.exactly_spec hex
  have hstr : vk_R RX11 170 "no such byte" sx s := vk_R.of (A := #[Value.ref b]) (hts _ (by decide +kernel)) hsa
  have hAA : ∀ q : Nat, q < s.heap.size → ¬ ax_A s q := fun q h1 h2 => absurd h1 (Nat.not_lt.mpr h2)
  have hini : (Cond.initialized Bundle.tN).before #[Value.ref b] s = true := hts _ (by decide +kernel)
  have hU : vx_Zq Bundle.tN "UNASSIGNED_STACK" Bundle.steD (ax_A s) s s.heap := vx_Zqof (args := #[Value.ref b]) (hts _ (by decide +kernel)) hini (hsf _ (by decide +kernel)) hAA
  have hN : vx_Zq Bundle.tN "SUPPRESSED_SENTINEL" Bundle.listD (ax_A s) s s.heap := vx_Zqof (args := #[Value.ref b]) (hts _ (by decide +kernel)) hini (hsf _ (by decide +kernel)) hAA
  have hF := pm_AF hA hD hS
  have hgd : GoodIn ax_W (.codeWith yL_out cL_out 4 (some .int) [(0, 9, 12, 13)] :: ax_W) := by
    intro w hw
    have h1 : w ∈ ax_W := by
      rcases List.mem_cons.mp hw with rfl | h
      · exact ax_in _ ax_loutcode (by decide)
      · exact h
    exact ⟨h1, good_of_word (List.mem_filter.mp h1).2⟩
  have hth : ∀ w ∈ ax_thB, va_Nw w s := fun w hw => va_Nw.of (ax_thB_tab w hw) (hts w (ax_thB_in w hw))
  have hsg : ∀ sig, parseMethodDescriptor yL_out.desc = some sig → 3 = sig.parameters.length := by
    intro sig h
    have h9 : (parseMethodDescriptor yL_out.desc).map (fun d => d.parameters.length) = some 3 := by decide +kernel
    rw [h] at h9
    exact (Option.some.inj h9).symm
  have hst1 : pm_St sa (va_A ws H.size) s H := (hSt.kept hS.2.1).narrow hF
  refine pl_after (mc := 1) (ms := 6) (rest := []) hA (vx_runSW (As := [.ref a, .int p0, .ref o3]) (rest := []) (hh := [(0, 9, 12, 13)]) (bytes := cL_out) (maxL := 4) (ret := some .int) S0 (pl_lout l hfl D b sa (L + 1) xs a o3 p0 ws tys H.size sx ⟨e5, e3, e1, trivial⟩ hhp hI)
    ⟨⟨by decide, by decide, by decide, by decide, pay_in S0.2.2.2.2 hgd, List.mem_cons_self⟩, S0.2.2.2.2 _ (ax_in _ ax_loutcode (by decide)), S0.2.2.2.2 _ ax_w7, by decide, hsg, S0.2.2.2.2 _ ax_w5, S0.2.2.2.2 _ ax_w6⟩
    ⟨pl_blindO, fun U hU2 hW => ⟨⟨rfl, by rw [hU2], by rw [hU2]; exact hP, va_K.moved hW.alike hK, hD.weaken (fun _ _ _ _ => trivial), ax_nest_warm hW hnest, va_AO.moved hW.alike hao, pm_nest_warm hW hfn, by rw [hU2]; exact pm_St.moved hW.alike hst1⟩, ax_thB_warm hW hth, vk_R.warm hW hstr, by rw [hU2]; exact vx_Zq.moved hW.alike ((hU.kept hS.2.1).narrow hF), by rw [hU2]; exact vx_Zq.moved hW.alike ((hN.kept hS.2.1).narrow hF)⟩⟩
    rfl rfl hls.1 rfl (lv_room (Nat.le_of_ble_eq_true rfl)) dL_364 ⟨h1, h2⟩) M.2.2.2.2.2.2 M.1 trivial hls hD hS (fun r τ hq => hG r τ hq.1 (hq.2.2 hJ))
/-- from the loop's head on -/
theorem pl_main (C0 : lw_At p s m meth c b L xs) (hfl : l.stackTraces = false) (hSt : pm_St sa (ax_A s) s s.heap) (hL : L ≤ 4096) : ∀ (n : Nat) (cn : Nat × Nat) (i : Int) (l5 l6 : Option pm_V) (σ : pm_H), pv_I σ → pj σ → 0 ≤ i → i ≤ (L : Int) + 8 → (L : Int) + 8 - i ≤ n → cn.1 + n ≤ 601024 → cn.2 + 6 * n ≤ 7293034 → pl_G p l e s m below meth c D b L xs sa wa cn (23, [some (.inr (.inr (some 0))), some (.inr (.inr (some 1))), some (.inr (.inr (some 77))), some (.inr (.inr (some 111))), some (.inl i), l5, l6], [], σ) := by
  intro n
  induction n using Nat.strongRecOn with
  | _ n ih =>
  intro cn i l5 l6 σ hI hJ hi0 hi1 hn h1 h2
  refine pm_T_ok (pl_X C0 hSt (by omega) (by omega)) (pm_con l 8) (ret := some .boolean) (ex := pl_ex) (E := pl_G p l e s m below meth c D b L xs sa wa cn) (fun S _ z => z) pl_hR ?_
  refine pl_head (L := L) (E := pl_G p l e s m below meth c D b L xs sa wa cn) ⟨hi0, hi1⟩ (by omega) hI hJ (fun h8 τ m5 m6 hIτ hJτ => ?_) (fun h8 => ?_) (pl_Z C0 (by omega) (by omega))
  · refine pl_next C0 hSt (by omega) (by omega) (by omega) (fun _ => ?_)
    exact ih (n - 8) (by omega) cn (i + 8) m5 m6 τ hIτ hJτ (by omega) (by omega) (by omega) (by omega) (by omega)
  · refine pl_O C0 hfl hSt (by omega) (by omega) hI hJ (fun r τ hIτ hJτ => ?_)
    refine pm_T_ok (pl_X (cn := (cn.1 + 1, cn.2 + 6)) C0 hSt (show cn.1 + 1 ≤ 601024 by omega) (show cn.2 + 6 ≤ 7293034 by omega)) (pm_con l 8) (ret := some .boolean) (ex := pl_ex) (E := pl_G p l e s m below meth c D b L xs sa wa (cn.1 + 1, cn.2 + 6)) (fun S _ z => z) pl_hR ?_
    refine pl_c367 (L := L) (E := pl_G p l e s m below meth c D b L xs sa wa (cn.1 + 1, cn.2 + 6)) (k := r) ⟨hi0, h8⟩ (by omega) hIτ hJτ (fun τ2 m5 m6 hI2 hJ2 => ?_)
    refine pl_next C0 hSt (show cn.1 + 1 ≤ 601024 by omega) (show cn.2 + 6 ≤ 7293034 by omega) (by omega) (fun _ => ?_)
    exact ih (n - 8) (by omega) (cn.1 + 1, cn.2 + 6) (i + 8) m5 m6 τ2 hI2 hJ2 (by omega) (by omega) (by omega) (show cn.1 + 1 + (n - 8) ≤ 601024 by omega) (show cn.2 + 6 + 6 * (n - 8) ≤ 7293034 by omega)
end FIN
