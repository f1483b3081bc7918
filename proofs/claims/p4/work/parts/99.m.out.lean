/-! out(i) THROWS OR ANSWERS, AND THE LAW'S out CATCHES OR ANSWERS -/
section AXO
set_option maxRecDepth 100000 in
theorem ax_outcode : lw_tbl[1199]? = some (.code yX11_out cX11_out 2 (some .int)) := rfl
set_option maxRecDepth 100000 in
theorem ax_loutcode : lw_tbl[1194]? = some (.codeWith yL_out cL_out 4 (some .int) [(0, 9, 12, 13)]) := rfl
theorem dO_0 : decode cX11_out 0 = .ok (.iload_n 1, 1) := by decide +kernel
theorem dO_1 : decode cX11_out 1 = .ok (.ifCond .lt 11, 3) := by decide +kernel
theorem dO_4 : decode cX11_out 4 = .ok (.iload_n 1, 1) := by decide +kernel
theorem dO_5 : decode cX11_out 5 = .ok (.aload_n 0, 1) := by decide +kernel
theorem dO_6 : decode cX11_out 6 = .ok (.getfield 139, 3) := by decide +kernel
theorem dO_9 : decode cX11_out 9 = .ok (.if_icmp .lt 13, 3) := by decide +kernel
theorem dO_12 : decode cX11_out 12 = .ok (.new 168, 3) := by decide +kernel
theorem dO_15 : decode cX11_out 15 = .ok (.dup, 1) := by decide +kernel
theorem dO_16 : decode cX11_out 16 = .ok (.ldc 170, 2) := by decide +kernel
theorem dO_18 : decode cX11_out 18 = .ok (.invokespecial 172, 3) := by decide +kernel
theorem dO_21 : decode cX11_out 21 = .ok (.athrow, 1) := by decide +kernel
theorem dP_0 : decode cL_out 0 = .ok (.aload_n 2, 1) := by decide +kernel
theorem dP_1 : decode cL_out 1 = .ok (.iconst 0, 1) := by decide +kernel
theorem dP_2 : decode cL_out 2 = .ok (.aload_n 0, 1) := by decide +kernel
theorem dP_3 : decode cL_out 3 = .ok (.iload_n 1, 1) := by decide +kernel
theorem dP_4 : decode cL_out 4 = .ok (.invokevirtual 7, 3) := by decide +kernel
theorem dP_12 : decode cL_out 12 = .ok (.astore_n 3, 1) := by decide +kernel
theorem dP_13 : decode cL_out 13 = .ok (.iconst 1, 1) := by decide +kernel
theorem dP_14 : decode cL_out 14 = .ok (.ireturn, 1) := by decide +kernel
def ax_thB : List Cond := [.castable ax_EX ax_EX, .declares (Bundle.initS ax_RT), .declares (Bundle.initS "java/lang/Exception"), .declares (Bundle.initS Bundle.tN)]
theorem ax_thr_in : ∀ w ∈ ((ax_atoms RX11 172).filter vx_no).filter goodWord, w ∈ lw_tbl := by decide +kernel
theorem ax_thr_no : ∀ w ∈ ((ax_atoms RX11 172).filter vx_no).filter (fun w => !goodWord w), w ∈ ax_thB := by decide +kernel
theorem ax_thr_ot : ∀ w ∈ Cond.classLink RX11 168 ax_EX :: Cond.initialized ax_EX :: (ax_atoms RX11 172).filter vx_no, vx_ot w = true := by decide +kernel
theorem ax_thr_W : ∀ w ∈ ((ax_atoms RX11 172).filter vx_no).filter goodWord, w ∈ ax_W := fun w h => List.mem_filter.mpr ⟨ax_thr_in w h, (List.mem_filter.mp h).2⟩
theorem ax_thB_tab : ∀ w ∈ ax_thB, w.onTables = true := by decide +kernel
theorem ax_thB_in : ∀ w ∈ ax_thB, w ∈ lw_tbl := by decide +kernel
theorem ax_thB_warm {s U : State} (hW : s.WarmedH U.vm) (h : ∀ w ∈ ax_thB, va_Nw w s) : ∀ w ∈ ax_thB, va_Nw w U := by
  intro w hw
  have h1 := h w hw
  simp only [ax_thB, List.mem_cons, List.not_mem_nil, or_false] at hw
  rcases hw with rfl | rfl | rfl | rfl
  · exact va_Nw.warmC hW h1
  · exact va_Nw.warmD hW h1
  · exact va_Nw.warmD hW h1
  · exact va_Nw.warmD hW h1
theorem ax_w1 : Cond.classLink RX11 168 ax_EX ∈ ax_W := List.mem_filter.mpr ⟨by decide +kernel, by decide⟩
theorem ax_w2 : Cond.initialized ax_EX ∈ ax_W := List.mem_filter.mpr ⟨by decide +kernel, by decide⟩
theorem ax_w3 : Cond.classLink RL 13 ax_EX ∈ ax_W := List.mem_filter.mpr ⟨by decide +kernel, by decide⟩
theorem ax_w4 : Cond.methodLink RL 7 yX11_out ∈ ax_W := List.mem_filter.mpr ⟨by decide +kernel, by decide⟩
theorem ax_w5 : Cond.methodLink RL 38 yL_out ∈ ax_W := List.mem_filter.mpr ⟨by decide +kernel, by decide⟩
theorem ax_w6 : Cond.static yL_out ∈ ax_W := List.mem_filter.mpr ⟨by decide +kernel, by decide⟩
theorem ax_w7 : Cond.initialized RL ∈ ax_W := List.mem_filter.mpr ⟨by decide +kernel, by decide⟩
theorem ax_w8 : Cond.initialized RX11 ∈ ax_W := List.mem_filter.mpr ⟨by decide +kernel, by decide⟩
theorem ax_w9 : Cond.instanceMethod yX11_out ∈ ax_W := List.mem_filter.mpr ⟨by decide +kernel, by decide⟩
theorem ax_w10 : Cond.selects RX11 yX11_out yX11_out ∈ ax_W := List.mem_filter.mpr ⟨by decide +kernel, by decide⟩
def ax_PO (D : va_G) (vs : List Value) (ws : va_W) (tys : List (ClassId × FieldType)) (sz sa : Nat) : Array Value → State → Prop := fun a U =>
  ax_Pc D vs ws tys sz a U ∧ (∀ w ∈ ax_thB, va_Nw w U) ∧ vk_R RX11 170 "no such byte" sa U ∧ vx_Zq Bundle.tN "UNASSIGNED_STACK" Bundle.steD (va_A ws sz) U U.heap ∧ vx_Zq Bundle.tN "SUPPRESSED_SENTINEL" Bundle.listD (va_A ws sz) U U.heap
theorem ax_blindO {D : va_G} {vs : List Value} {ws : va_W} {tys : List (ClassId × FieldType)} {sz sa : Nat} : FrameBlind (ax_PO D vs ws tys sz sa) := by
  intro a U g mk q
  obtain ⟨q0, q1, q2, q3, q4⟩ := q
  exact ⟨ax_blind a U g mk q0, fun w hw => va_Nw.same (u := U) (U := U.calling g mk a) (ax_thB_tab w hw) rfl (q1 w hw), vk_R.same (u := U) (U := U.calling g mk a) rfl q2, vx_Zq.moved (u := U) (U := U.calling g mk a) (Vm.Alike.refl U.vm) q3, vx_Zq.moved (u := U) (U := U.calling g mk a) (Vm.Alike.refl U.vm) q4⟩
set_option maxHeartbeats 4000000 in
theorem ax_out_c (l : Launch) (hfl : l.stackTraces = false) (D : va_G) (a : Nat) (p0 : Int32) (ws : va_W) (tys : List (ClassId × FieldType)) (sz sa : Nat) (fs : List Value) (hw0 : ws[0]? = some (a, .inr (9, fs))) {x14 : Int32} (hf0 : fs[14]? = some (.int x14)) (hout : ¬ p0 < 0 → ¬ p0 < x14) :
    vx_Met l yX11_out (.code yX11_out cX11_out 2 (some .int) :: ax_W) { frames := 6, cells := 1, slots := 6, locals := 90 } (ax_PO D [.ref a, .int p0] ws tys sz sa) (va_Qi (S := Unit) (fun _ _ => False) (fun _ _ => True) (fun _ => False)) (vx_X (S := Unit) (fun _ => True) (fun E _ _ => E = ax_EX) (fun _ => False)) 1 6 (va_A ws sz) := by
  refine vx_ofW (cc := cX11_out) (maxL := 2) (ret := some .int) (by decide) rfl ?_
  intro p e s m args below meth c s₁ B hml hnx hv
  obtain ⟨⟨rfl, hsz, hP, hK, hD0, hN, hAO⟩, hcast, hstr, hU, hNn⟩ := hv
  have hx := B.exec
  have hb := B.bytes
  have hts0 := atoms_spec (ws := .code yX11_out cX11_out 2 (some .int) :: ax_W) B.pre
  have hts : ∀ w ∈ ax_W, w.before ([.ref a, .int p0] : List Value).toArray s = true := fun w hw => hts0 w (List.mem_cons_of_mem _ hw)
  have hown : s.vm.findClass RX11 = some m.cls := findClass_of_methodNamed B.named
  have hlocks := B.notSynchronized
  subst hsz
  have hS : va_S (va_A ws s.heap.size) s.heap s.heap [] := va_S.rf
  have hl := lv_entry ([.ref a, .int p0]) (n := 2) (Nat.le_of_ble_eq_true rfl)
  rw [lg_entry_eq]
  generalize (lg_sl ([.ref a, .int p0]) ++ List.replicate (2 - (lg_sl ([.ref a, .int p0])).length) Slot.unset).toArray = ls at hl ⊢
  have hl : lv_has ls 2 [(0, .ref a), (1, .int p0)] := hl
  have thr : W p l e (headSpec (.code yX11_out cX11_out 2 (some .int) :: ax_W) { frames := 6, cells := 1, slots := 6, locals := 90 }).room s m ([.ref a, .int p0] : List Value).toArray below meth c s.heap [] 0 0 (vx_MQ below (va_Qi (S := Unit) (fun _ _ => False) (fun _ _ => True) (fun _ => False)) (vx_X (S := Unit) (fun _ => True) (fun E _ _ => E = ax_EX) (fun _ => False)) ([.ref a, .int p0] : List Value).toArray s 1 6 (va_A ws s.heap.size)) (F0 m 12 ls []) := by
    refine ax_throwN (own := RX11) (text := "no such byte") (ik := 168) (is := 170) (ic := 172) (sa := sa) (A := va_A ws s.heap.size) hx hb hfl hown (hts _ ax_w1) (hts _ ax_w2) hstr ?_ ax_thr_ot hU hNn hS (by rw [hml]; exact hl.1) dO_12 dO_15 dO_16 dO_18 dO_21 (fun x hx9 => (hnx x hx9).elim) (by decide) (by decide) (by decide) (by decide) hlocks ?_ (fun z h => by cases h) (by decide) (by decide)
    · exact vx_hat (fun w h => hts w (ax_thr_W w h)) ax_thr_no (fun w hw => va_Nw.use (ax_thB_tab w hw) (hcast w hw))
    · intro t _ h1 h2
      exact ⟨(), trivial, rfl, h1, fun q hq _ => h2 q hq⟩
  refine lv_iload_n hx hb dO_0 rfl (lv_at hl 1 rfl) ?_
  refine lv_if_lt (tgt := 12) hx hb dO_1 (by decide) (fun c1 => thr) (fun c1 => ?_)
  refine lv_iload_n hx hb dO_4 rfl (lv_at hl 1 rfl) ?_
  refine lv_aload_n hx hb dO_5 rfl (lv_at hl 0 rfl) ?_
  obtain ⟨z, f1, f2, f3⟩ := ax_fld_ok (o := 11) (i := 139) (ci := 9) (k := 14) (q := ((ax_fld 11 139).getD (0, 0, 0)).2.2) (by decide +kernel)
  refine va_get (C := z.1) (T := z.2.1) (N := z.2.2) (ref := (z.2.1 14).1) hx hb hts (ax_cl 9 z f1).1 hown hK hP 0 hw0 f1 14 f2 (hts _ f3) (fun _ h9 => h9) hf0 dO_6 ?_
  exact lv_icmp_lt (tgt := 22) hx hb dO_9 (by decide) (fun c2 => absurd c2 (hout c1)) (fun _ => thr)
theorem ax_keepP {D : va_G} {ws : va_W} {H H1 : Heap} (hP : va_P D vwCl ws H) (hk : ∀ q : Nat, q < H.size → ¬ (fun _ : Nat => False) q → H1[q]? = H[q]?) : va_P D vwCl ws H1 := hP.kept (fun k q hq => hk q.1 (hP k q hq).lt (fun h => h))
theorem ax_lo_tab : tableOf [(0, 9, 12, 13)] = [{ startPc := 0, endPc := 9, handlerPc := 12, catchType := 13 }] := rfl
def pl_PO (D : va_G) (sl : List Nat) (vs : List Value) (ws : va_W) (tys : List (ClassId × FieldType)) (sz sa : Nat) : Array Value → State → Prop := fun a U =>
  pm_Pc D sl vs ws tys sz a U ∧ (∀ w ∈ ax_thB, va_Nw w U) ∧ vk_R RX11 170 "no such byte" sa U ∧ vx_Zq Bundle.tN "UNASSIGNED_STACK" Bundle.steD (va_A ws sz) U U.heap ∧ vx_Zq Bundle.tN "SUPPRESSED_SENTINEL" Bundle.listD (va_A ws sz) U U.heap
theorem pl_blindO {D : va_G} {sl : List Nat} {vs : List Value} {ws : va_W} {tys : List (ClassId × FieldType)} {sz sa : Nat} : FrameBlind (pl_PO D sl vs ws tys sz sa) := by
  intro a U g mk q
  obtain ⟨q0, q1, q2, q3, q4⟩ := q
  exact ⟨pm_blind a U g mk q0, fun w hw => va_Nw.same (u := U) (U := U.calling g mk a) (ax_thB_tab w hw) rfl (q1 w hw), vk_R.same (u := U) (U := U.calling g mk a) rfl q2, vx_Zq.moved (u := U) (U := U.calling g mk a) (Vm.Alike.refl U.vm) q3, vx_Zq.moved (u := U) (U := U.calling g mk a) (Vm.Alike.refl U.vm) q4⟩
/-- the first object of the world, and its number of written bytes -/
theorem pl_w0 {b : Nat} {sl : List Nat} {L : Nat} {xs : Nat → Int32} {a : Nat} {r1 : List pm_V} {v2 : List Value} {ws : va_W} {tys : List (ClassId × FieldType)} {σ : pm_H} (hvs : ax_all2 (pm_ok (pm_RR b ws sl)) (.inr (.inr (some 1)) :: r1) (.ref a :: v2)) (hhp : pm_hps b sl (ws.map (fun q => q.1)) L xs σ ws tys) : ∃ (x14 : Int32) (fs : List Value), ws[0]? = some (a, .inr (9, fs)) ∧ fs[14]? = some (.int x14) ∧ x14.toInt = σ 1 14 := by
  obtain ⟨afs, h0, h14⟩ : ∃ afs, pm_sh[0]? = some (.inl (9, afs)) ∧ afs[14]? = some none := ⟨_, rfl, rfl⟩
  obtain ⟨w, e4⟩ : ∃ w, ws[0]? = some w := ⟨_, List.getElem?_eq_getElem (by rw [hhp.1]; exact pm_sh_len h0)⟩
  obtain ⟨q, hq, e3⟩ := pm_ok_r hvs.1
  cases hq
  have e6 := pm_at e3 e4
  obtain ⟨vs0, e7, e8, e9⟩ := hhp.2.1 0 _ w h0 e4
  rw [e7] at e6
  subst e6
  obtain ⟨v, hv⟩ : ∃ v, vs0[14]? = some v := ⟨_, List.getElem?_eq_getElem (by rw [← e8]; exact (List.getElem?_eq_some_iff.mp h14).1)⟩
  obtain ⟨x, rfl, hx⟩ := e9 14 none v h14 hv
  exact ⟨x, vs0, e4, hv, hx⟩
theorem pl_st {Q : pm_Q} {pc len : Nat} {i : Instr} {lv : pm_L} {st : List pm_V} {σ : pm_H} {o : pm_N} (hd : decode cL_out pc = .ok (i, len)) (ho : pm_op 13 4 0 (some .int) i len pc lv st σ = some o) (h : pm_NG (pm_TerF 1) Q σ (pm_T pm_ex0 pm_E0 13 4 0 cL_out (some .int) (pm_TerF 1) Q) o) : pm_T pm_ex0 pm_E0 13 4 0 cL_out (some .int) (pm_TerF 1) Q (pc, lv, st, σ) := by
  refine pm_T_fold (pm_TerF_mo _) ?_
  unfold pm_F
  rw [if_neg (by unfold pm_ex0; decide)]
  dsimp only
  rw [hd]
  dsimp only
  rw [ho]
  exact h
theorem dP_7 : decode cL_out 7 = .ok (.i2l, 1) := by decide +kernel
theorem dP_8 : decode cL_out 8 = .ok (.lastore, 1) := by decide +kernel
theorem dP_9 : decode cL_out 9 = .ok (.goto 6, 3) := by decide +kernel
theorem dP_15 : decode cL_out 15 = .ok (.iconst 0, 1) := by decide +kernel
theorem dP_16 : decode cL_out 16 = .ok (.ireturn, 1) := by decide +kernel
theorem pl_I111 {σ : pm_H} {v : Int} (h : pv_I σ) : pv_I (pm_up σ 111 0 v) := by
  have f : pm_fr [111] [] σ (pm_up σ 111 0 v) := pm_fr_up pm_fr_rf (by decide)
  refine pv_I_ref h f (by decide) (by decide) (pm_SL_eq h.r0 (pm_fa f 86 (by decide) (by decide)) (pm_fa f 87 (by decide) (by decide)) (pm_fa f 88 (by decide) (by decide))) ?_ ?_ ?_ ?_ (pm_rg_eq h.r5 (pm_fa f 97 (by decide) (by decide))) (pm_rg_eq h.r6 (pm_fa f 97 (by decide) (by decide)))
  · rw [pm_fa f 77 (by decide) (by decide)]
    exact h.r1
  · rw [pm_fa f 77 (by decide) (by decide)]
    exact h.r2
  · rw [pm_fa f 77 (by decide) (by decide)]
    exact h.r3
  · rw [pm_fa f 77 (by decide) (by decide)]
    exact h.r4
theorem pl_outT {σ : pm_H} {k : Int} (hin : 0 ≤ k ∧ k < σ 1 14) (hI : pv_I σ) : pm_T pm_ex0 pm_E0 13 4 0 cL_out (some .int) (pm_TerF 1) (fun _ τ => pv_I τ ∧ τ 0 = σ 0 ∧ (pj σ → pj τ)) (0, pm_ent 4 [.inr (.inr (some 1)), .inl k, .inr (.inr (some 111))], [], σ) := by
  refine pl_st dP_0 rfl ⟨trivial, fun c hc _ => ?_⟩
  cases List.mem_singleton.mp hc
  refine pl_st dP_1 rfl ⟨trivial, fun c hc _ => ?_⟩
  cases List.mem_singleton.mp hc
  refine pl_st dP_2 rfl ⟨trivial, fun c hc _ => ?_⟩
  cases List.mem_singleton.mp hc
  refine pl_st dP_3 rfl ⟨trivial, fun c hc _ => ?_⟩
  cases List.mem_singleton.mp hc
  refine pl_st dP_4 rfl ?_
  refine (pm_TerF_stable _ 163 (Nat.le_refl _) 1 (by decide) _ _ _).mpr (k11_out hin hI.c2.2 (fun r => ?_))
  refine pl_st dP_7 rfl ⟨trivial, fun c hc _ => ?_⟩
  cases List.mem_singleton.mp hc
  refine pl_st dP_8 rfl ⟨⟨by decide, by decide⟩, fun c hc _ => ?_⟩
  cases List.mem_singleton.mp hc
  refine pl_st dP_9 rfl ⟨trivial, fun c hc _ => ?_⟩
  cases List.mem_singleton.mp hc
  refine pl_st dP_15 rfl ⟨trivial, fun c hc _ => ?_⟩
  cases List.mem_singleton.mp hc
  refine pl_st dP_16 rfl ?_
  exact ⟨trivial, pl_I111 hI, pu_ne (by decide), fun z => pj_111 z⟩
set_option maxHeartbeats 4000000 in
theorem pl_lout (l : Launch) (hfl : l.stackTraces = false) (D : va_G) (b : Nat) (sl : List Nat) (L : Nat) (xs : Nat → Int32) (a o3 : Nat) (p0 : Int32) (ws : va_W) (tys : List (ClassId × FieldType)) (sz sa : Nat) {σ : pm_H} {k : Int} (hvs : ax_all2 (pm_ok (pm_RR b ws sl)) [.inr (.inr (some 1)), .inl k, .inr (.inr (some 111))] [.ref a, .int p0, .ref o3]) (hhp : pm_hps b sl (ws.map (fun q => q.1)) L xs σ ws tys) (hI : pv_I σ) :
    Met l yL_out (.codeWith yL_out cL_out 4 (some .int) [(0, 9, 12, 13)] :: ax_W) { frames := 7, cells := 1, slots := 6, locals := 120 } (pl_PO D sl [.ref a, .int p0, .ref o3] ws tys sz sa) (pm_Qc b sl L xs D (fun _ τ => pv_I τ ∧ τ 0 = σ 0 ∧ (pj σ → pj τ)) (some .int) ws sz) 1 6 (va_A ws sz) := by
  refine va_MetW (cc := cL_out) (maxL := 4) (ret := some .int) (by decide) rfl ?_
  intro p e s m args below meth c s₁ B hml hv
  obtain ⟨⟨rfl, hsz, hP, hK, hD0, hN, hAO, hFN, hSt⟩, hcast, hstr, hU0, hNn⟩ := hv
  obtain ⟨x14, fs, hw0, hf0, h14⟩ := pl_w0 hvs hhp
  have hx := B.exec
  have hb := B.bytes
  have hr := B.returns
  have hts0 := atoms_spec (ws := .codeWith yL_out cL_out 4 (some .int) [(0, 9, 12, 13)] :: ax_W) B.pre
  have hts : ∀ w ∈ ax_W, w.before ([.ref a, .int p0, .ref o3] : List Value).toArray s = true := fun w hw => hts0 w (List.mem_cons_of_mem _ hw)
  have htab := vx_table (x := yL_out) B (hts0 _ List.mem_cons_self)
  rw [ax_lo_tab] at htab
  have hown : s.vm.findClass RL = some m.cls := findClass_of_methodNamed B.named
  have hlocks := B.notSynchronized
  subst hsz
  have hA : ∀ q : Nat, s.heap.size ≤ q → va_A ws s.heap.size q := fun q h => Or.inr h
  have hS : va_S (va_A ws s.heap.size) s.heap s.heap [] := va_S.rf
  have hl := lv_entry ([.ref a, .int p0, .ref o3]) (n := 4) (Nat.le_of_ble_eq_true rfl)
  rw [lg_entry_eq]
  generalize (lg_sl ([.ref a, .int p0, .ref o3]) ++ List.replicate (4 - (lg_sl ([.ref a, .int p0, .ref o3])).length) Slot.unset).toArray = ls at hl ⊢
  have hl : lv_has ls 4 [(0, .ref a), (1, .int p0), (2, .ref o3)] := hl
  have hD := hD0.self (sz := s.heap.size)
  have hp0 : p0.toInt = k := by
    obtain ⟨x, h1, h2⟩ := pm_ok_i hvs.2.1
    cases h1
    exact h2
  by_cases hin : 0 ≤ k ∧ k < σ 1 14
  · have X : pm_X p (headSpec (.codeWith yL_out cL_out 4 (some .int) [(0, 9, 12, 13)] :: ax_W) { frames := 7, cells := 1, slots := 6, locals := 120 }).room s m ([.ref a, .int p0, .ref o3] : List Value).toArray c (va_A ws s.heap.size) b 13 4 0 L 1 cL_out xs sl (0, 0) :=
      ⟨⟨hx, hb, hml, hown, hts⟩, hN, hFN, hAO, hA, ⟨Nat.zero_le _, Nat.zero_le _, by decide, by decide⟩, hSt, fun h => absurd h (by omega)⟩
    have key := pm_T_ok (wa := ws.map (fun q => q.1)) (e := e) (below := below) (D := D) (meth := meth) (Q := MQ below (pm_Qc b sl L xs D (fun _ τ => pv_I τ ∧ τ 0 = σ 0 ∧ (pj σ → pj τ)) (some .int) ws s.heap.size) ([.ref a, .int p0, .ref o3] : List Value).toArray s 1 6 (va_A ws s.heap.size)) X (pm_con l 1) (ret := some .int) (ex := pm_ex0) (E := pm_E0) (fun S h => by cases h) ?_ (pl_outT hin hI)
    · refine key [(0, .ref a), (1, .int p0), (2, .ref o3)] [] ws tys ls s.heap [] ⟨fun j z hj => ?_, trivial, hhp⟩ hl hK hP hD hS
      obtain ⟨v, g1, g2⟩ := pm_ent_ok 4 0 hvs j z hj
      rw [Nat.zero_add] at g1
      exact ⟨v, g1, g2⟩
    · intro pc lv st τ i k9 len o hk hd hret hG
      intro cv cs ws1 tys1 ls1 H locs M hls hK1 hP1 hD1 hS1
      have M3 := M.2.1
      unfold pm_ret at hret
      split at hret
      · rename_i hl9
        subst hl9
        split at hret
        · rename_i h9
          cases h9
        · rename_i z h9
          cases hret
          obtain rfl : i = .ireturn := by
            rcases hk with h | h | h | h
            · exact absurd h.2 (by decide)
            · exact h.1
            all_goals exact absurd h.2 (by decide)
          obtain ⟨v1, cr, rfl, e1, e2⟩ := ax_popk M3
          obtain ⟨x, rfl, e3⟩ := pm_ok_i e1
          cases cr with
          | cons => exact e2.elim
          | nil =>
          refine W.widen (k := 1) (n := 6) (by decide) (by decide) ?_
          exact W.zret (ty := .int) hx hb hr rfl (fun tt h1 h2 => ⟨⟨_, τ, _, ws1, tys1, rfl, hG.2, ⟨e3, trivial⟩, M.2.2, by rw [h1]; exact hP1, va_K.moved h2.alike hK1, hD1⟩, hS1.F h1⟩) hS1.2.2 hd
        · rename_i h9
          cases h9
        · rename_i h9
          cases h9
        · rename_i h9
          cases h9
        · cases hret
      · cases hret
  have hout : ¬ p0 < 0 → ¬ p0 < x14 := fun c1 c2 => hin (by
    rw [Int32.lt_iff_toInt_lt] at c1 c2
    have z0 : (0 : Int32).toInt = 0 := by decide
    omega)
  refine lv_aload_n hx hb dP_0 rfl (lv_at hl 2 rfl) ?_
  refine lv_iconst (v := 0) hx hb dP_1 (by decide) ?_
  refine lv_aload_n hx hb dP_2 rfl (lv_at hl 0 rfl) ?_
  refine lv_iload_n hx hb dP_3 rfl (lv_at hl 1 rfl) ?_
  have hgood : GoodIn ax_W (.code yX11_out cX11_out 2 (some .int) :: ax_W) := by
    intro w hw
    have h1 : w ∈ ax_W := by
      rcases List.mem_cons.mp hw with rfl | h
      · exact ax_in _ ax_outcode (by decide)
      · exact h
    exact ⟨h1, good_of_word (List.mem_filter.mp h1).2⟩
  refine vx_calli (vx_runV (As := [.int p0]) (rest := [.int 0, .ref o3]) (C := RX11) ⟨hx, hb, hml, hown, hts⟩ (ax_out_c l hfl D a p0 ws tys s.heap.size sa fs hw0 hf0 hout)
    ⟨callB_of 1 hts hgood rfl rfl rfl (hts _ ax_w8) (hts _ ax_w4) (by decide +kernel) ⟨by decide, by decide⟩, hts _ ax_w9, hts _ ax_w10⟩
    ⟨ax_blindO, va_recv hK hP (ci := 9) rfl hw0, fun U hU hW => ⟨⟨rfl, by rw [hU], by rw [hU]; exact hP, va_K.moved hW.alike hK, hD0, ax_nest_warm hW hN, va_AO.moved hW.alike hAO⟩, ax_thB_warm hW hcast, vk_R.warm hW hstr, by rw [hU]; exact vx_Zq.moved hW.alike hU0, by rw [hU]; exact vx_Zq.moved hW.alike hNn⟩⟩
    rfl rfl hl.1 rfl (lv_room (Nat.le_of_ble_eq_true rfl)) dP_4 ⟨by decide, by decide⟩) hS (fun q _ h => h.elim) (fun q h => h) (fun q _ h => h.elim) (fun E ce q9 u t H1 locs1 ht hal _ hE hz hk hS1 hce hcv hcl => ?_) (fun r u t H1 locs1 ht hal hr0 => hr0.elim)
  subst hE
  have hP1 := ax_keepP hP hk
  refine ax_catch1 (own := RL) (name := ax_EX) (E := ax_EX) hown _ htab (by decide) (by decide) (hts _ ax_w3) (va_Nw.use rfl (hcast _ List.mem_cons_self)) hce hcv hcl ?_
  refine lv_astore_n (lv' := [(3, .ref q9), (0, .ref a), (1, .int p0), (2, .ref o3)]) hx hb dP_12 rfl hl (by decide) rfl (fun ls hl => ?_)
  refine lv_iconst (v := 1) hx hb dP_13 (by decide) ?_
  exact W.zret (ty := .int) hx hb hr rfl (fun tt h1 h2 => ⟨⟨1, σ, _, ws, tys, rfl, ⟨hI, rfl, fun z => z⟩, ⟨(show (1 : Int32).toInt = (1 : Int) from by decide), trivial⟩, hhp, by rw [h1]; exact hP1, va_K.moved h2.alike hK, hD⟩, hS1.F h1⟩) hS1.2.2 dP_14
end AXO
