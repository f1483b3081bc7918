/-! out(i) OF A NEW OBJECT THROWS, AND THE LAW'S out CATCHES IT -/
section AXO
set_option maxRecDepth 100000 in
theorem ax_outcode : lw_tbl[1199]? = some (.code yX11_out cX11_out 2 (some .int)) := rfl
set_option maxRecDepth 100000 in
theorem ax_loutcode : lw_tbl[1194]? = some (.codeWith yL_out cL_out 4 (some .int) [(0, 9, 12, 13)]) := rfl
theorem dO_0 : decode cX11_out 0 = .ok (.iload_n 1, 1) := by decide +kernel
theorem dO_1 : decode cX11_out 1 = .ok (.ifCond .lt 11, 3) := by decide +kernel
theorem dO_4 : decode cX11_out 4 = .ok (.iload_n 1, 1) := by decide +kernel
theorem dO_5 : decode cX11_out 5 = .ok (.aload_n 0, 1) := by decide +kernel
theorem dO_6 : decode cX11_out 6 = .ok (.getfield 139, 3) := by decide +kernel
theorem dO_9 : decode cX11_out 9 = .ok (.if_icmp .lt 13, 3) := by decide +kernel
theorem dO_12 : decode cX11_out 12 = .ok (.new 168, 3) := by decide +kernel
theorem dO_15 : decode cX11_out 15 = .ok (.dup, 1) := by decide +kernel
theorem dO_16 : decode cX11_out 16 = .ok (.ldc 170, 2) := by decide +kernel
theorem dO_18 : decode cX11_out 18 = .ok (.invokespecial 172, 3) := by decide +kernel
theorem dO_21 : decode cX11_out 21 = .ok (.athrow, 1) := by decide +kernel
theorem dP_0 : decode cL_out 0 = .ok (.aload_n 2, 1) := by decide +kernel
theorem dP_1 : decode cL_out 1 = .ok (.iconst 0, 1) := by decide +kernel
theorem dP_2 : decode cL_out 2 = .ok (.aload_n 0, 1) := by decide +kernel
theorem dP_3 : decode cL_out 3 = .ok (.iload_n 1, 1) := by decide +kernel
theorem dP_4 : decode cL_out 4 = .ok (.invokevirtual 7, 3) := by decide +kernel
theorem dP_12 : decode cL_out 12 = .ok (.astore_n 3, 1) := by decide +kernel
theorem dP_13 : decode cL_out 13 = .ok (.iconst 1, 1) := by decide +kernel
theorem dP_14 : decode cL_out 14 = .ok (.ireturn, 1) := by decide +kernel
def ax_thB : List Cond := [.castable ax_EX ax_EX, .declares (Bundle.initS ax_RT), .declares (Bundle.initS "java/lang/Exception"), .declares (Bundle.initS Bundle.tN)]
theorem ax_thr_in : ∀ w ∈ ((ax_atoms RX11 172).filter vx_no).filter goodWord, w ∈ lw_tbl := by decide +kernel
theorem ax_thr_no : ∀ w ∈ ((ax_atoms RX11 172).filter vx_no).filter (fun w => !goodWord w), w ∈ ax_thB := by decide +kernel
theorem ax_thr_ot : ∀ w ∈ Cond.classLink RX11 168 ax_EX :: Cond.initialized ax_EX :: (ax_atoms RX11 172).filter vx_no, vx_ot w = true := by decide +kernel
theorem ax_thr_W : ∀ w ∈ ((ax_atoms RX11 172).filter vx_no).filter goodWord, w ∈ ax_W := fun w h => List.mem_filter.mpr ⟨ax_thr_in w h, (List.mem_filter.mp h).2⟩
theorem ax_thB_tab : ∀ w ∈ ax_thB, w.onTables = true := by decide +kernel
theorem ax_thB_in : ∀ w ∈ ax_thB, w ∈ lw_tbl := by decide +kernel
theorem ax_thB_warm {s U : State} (hW : s.WarmedH U.vm) (h : ∀ w ∈ ax_thB, va_Nw w s) : ∀ w ∈ ax_thB, va_Nw w U := by
  intro w hw
  have h1 := h w hw
  simp only [ax_thB, List.mem_cons, List.not_mem_nil, or_false] at hw
  rcases hw with rfl | rfl | rfl | rfl
  · exact va_Nw.warmC hW h1
  · exact va_Nw.warmD hW h1
  · exact va_Nw.warmD hW h1
  · exact va_Nw.warmD hW h1
theorem ax_w1 : Cond.classLink RX11 168 ax_EX ∈ ax_W := List.mem_filter.mpr ⟨by decide +kernel, by decide⟩
theorem ax_w2 : Cond.initialized ax_EX ∈ ax_W := List.mem_filter.mpr ⟨by decide +kernel, by decide⟩
theorem ax_w3 : Cond.classLink RL 13 ax_EX ∈ ax_W := List.mem_filter.mpr ⟨by decide +kernel, by decide⟩
theorem ax_w4 : Cond.methodLink RL 7 yX11_out ∈ ax_W := List.mem_filter.mpr ⟨by decide +kernel, by decide⟩
theorem ax_w5 : Cond.methodLink RL 38 yL_out ∈ ax_W := List.mem_filter.mpr ⟨by decide +kernel, by decide⟩
theorem ax_w6 : Cond.static yL_out ∈ ax_W := List.mem_filter.mpr ⟨by decide +kernel, by decide⟩
theorem ax_w7 : Cond.initialized RL ∈ ax_W := List.mem_filter.mpr ⟨by decide +kernel, by decide⟩
theorem ax_w8 : Cond.initialized RX11 ∈ ax_W := List.mem_filter.mpr ⟨by decide +kernel, by decide⟩
theorem ax_w9 : Cond.instanceMethod yX11_out ∈ ax_W := List.mem_filter.mpr ⟨by decide +kernel, by decide⟩
theorem ax_w10 : Cond.selects RX11 yX11_out yX11_out ∈ ax_W := List.mem_filter.mpr ⟨by decide +kernel, by decide⟩
def ax_PO (D : va_G) (vs : List Value) (ws : va_W) (tys : List (ClassId × FieldType)) (sz sa : Nat) : Array Value → State → Prop := fun a U =>
  ax_Pc D vs ws tys sz a U ∧ (∀ w ∈ ax_thB, va_Nw w U) ∧ vk_R RX11 170 "no such byte" sa U ∧ vx_Zq Bundle.tN "UNASSIGNED_STACK" Bundle.steD (va_A ws sz) U U.heap ∧ vx_Zq Bundle.tN "SUPPRESSED_SENTINEL" Bundle.listD (va_A ws sz) U U.heap
theorem ax_blindO {D : va_G} {vs : List Value} {ws : va_W} {tys : List (ClassId × FieldType)} {sz sa : Nat} : FrameBlind (ax_PO D vs ws tys sz sa) := by
  intro a U g mk q
  obtain ⟨q0, q1, q2, q3, q4⟩ := q
  exact ⟨ax_blind a U g mk q0, fun w hw => va_Nw.same (u := U) (U := U.calling g mk a) (ax_thB_tab w hw) rfl (q1 w hw), vk_R.same (u := U) (U := U.calling g mk a) rfl q2, vx_Zq.moved (u := U) (U := U.calling g mk a) (Vm.Alike.refl U.vm) q3, vx_Zq.moved (u := U) (U := U.calling g mk a) (Vm.Alike.refl U.vm) q4⟩
set_option maxHeartbeats 4000000 in
theorem ax_out_c (l : Launch) (hfl : l.stackTraces = false) (D : va_G) (a : Nat) (p0 : Int32) (ws : va_W) (tys : List (ClassId × FieldType)) (sz sa : Nat) (fs : List Value) (hw0 : ws[0]? = some (a, .inr (9, fs))) (hf0 : fs[14]? = some (.int 0)) :
    vx_Met l yX11_out (.code yX11_out cX11_out 2 (some .int) :: ax_W) { frames := 6, cells := 1, slots := 6, locals := 90 } (ax_PO D [.ref a, .int p0] ws tys sz sa) (va_Qi (S := Unit) (fun _ _ => False) (fun _ _ => True) (fun _ => False)) (vx_X (S := Unit) (fun _ => True) (fun E _ _ => E = ax_EX) (fun _ => False)) 1 6 (va_A ws sz) := by
  refine vx_ofW (cc := cX11_out) (maxL := 2) (ret := some .int) (by decide) rfl ?_
  intro p e s m args below meth c s₁ B hml hnx hv
  obtain ⟨⟨rfl, hsz, hP, hK, hD0, hN, hAO⟩, hcast, hstr, hU, hNn⟩ := hv
  have hx := B.exec
  have hb := B.bytes
  have hts0 := atoms_spec (ws := .code yX11_out cX11_out 2 (some .int) :: ax_W) B.pre
  have hts : ∀ w ∈ ax_W, w.before ([.ref a, .int p0] : List Value).toArray s = true := fun w hw => hts0 w (List.mem_cons_of_mem _ hw)
  have hown : s.vm.findClass RX11 = some m.cls := findClass_of_methodNamed B.named
  have hlocks := B.notSynchronized
  subst hsz
  have hS : va_S (va_A ws s.heap.size) s.heap s.heap [] := va_S.rf
  have hl := lv_entry ([.ref a, .int p0]) (n := 2) (Nat.le_of_ble_eq_true rfl)
  rw [lg_entry_eq]
  generalize (lg_sl ([.ref a, .int p0]) ++ List.replicate (2 - (lg_sl ([.ref a, .int p0])).length) Slot.unset).toArray = ls at hl ⊢
  have hl : lv_has ls 2 [(0, .ref a), (1, .int p0)] := hl
  have thr : W p l e (headSpec (.code yX11_out cX11_out 2 (some .int) :: ax_W) { frames := 6, cells := 1, slots := 6, locals := 90 }).room s m ([.ref a, .int p0] : List Value).toArray below meth c s.heap [] 0 0 (vx_MQ below (va_Qi (S := Unit) (fun _ _ => False) (fun _ _ => True) (fun _ => False)) (vx_X (S := Unit) (fun _ => True) (fun E _ _ => E = ax_EX) (fun _ => False)) ([.ref a, .int p0] : List Value).toArray s 1 6 (va_A ws s.heap.size)) (F0 m 12 ls []) := by
    refine ax_throwN (own := RX11) (text := "no such byte") (ik := 168) (is := 170) (ic := 172) (sa := sa) (A := va_A ws s.heap.size) hx hb hfl hown (hts _ ax_w1) (hts _ ax_w2) hstr ?_ ax_thr_ot hU hNn hS (by rw [hml]; exact hl.1) dO_12 dO_15 dO_16 dO_18 dO_21 (fun x hx9 => (hnx x hx9).elim) (by decide) (by decide) (by decide) (by decide) hlocks ?_ (fun z h => by cases h) (by decide) (by decide)
    · exact vx_hat (fun w h => hts w (ax_thr_W w h)) ax_thr_no (fun w hw => va_Nw.use (ax_thB_tab w hw) (hcast w hw))
    · intro t _ h1 h2
      exact ⟨(), trivial, rfl, h1, fun q hq _ => h2 q hq⟩
  refine lv_iload_n hx hb dO_0 rfl (lv_at hl 1 rfl) ?_
  refine lv_if_lt (tgt := 12) hx hb dO_1 (by decide) (fun c1 => thr) (fun c1 => ?_)
  refine lv_iload_n hx hb dO_4 rfl (lv_at hl 1 rfl) ?_
  refine lv_aload_n hx hb dO_5 rfl (lv_at hl 0 rfl) ?_
  obtain ⟨z, f1, f2, f3⟩ := ax_fld_ok (o := 11) (i := 139) (ci := 9) (k := 14) (q := ((ax_fld 11 139).getD (0, 0, 0)).2.2) (by decide +kernel)
  refine va_get (C := z.1) (T := z.2.1) (N := z.2.2) (ref := (z.2.1 14).1) hx hb hts (ax_cl 9 z f1).1 hown hK hP 0 hw0 f1 14 f2 (hts _ f3) (fun _ h9 => h9) hf0 dO_6 ?_
  exact lv_icmp_lt (tgt := 22) hx hb dO_9 (by decide) (fun c2 => absurd c2 c1) (fun _ => thr)
theorem ax_keepP {D : va_G} {ws : va_W} {H H1 : Heap} (hP : va_P D vwCl ws H) (hk : ∀ q : Nat, q < H.size → ¬ (fun _ : Nat => False) q → H1[q]? = H[q]?) : va_P D vwCl ws H1 := hP.kept (fun k q hq => hk q.1 (hP k q hq).lt (fun h => h))
theorem ax_lo_tab : tableOf [(0, 9, 12, 13)] = [{ startPc := 0, endPc := 9, handlerPc := 12, catchType := 13 }] := rfl
set_option maxHeartbeats 4000000 in
theorem ax_lout_c (l : Launch) (hfl : l.stackTraces = false) (D : va_G) (a o3 : Nat) (p0 : Int32) (ws : va_W) (tys : List (ClassId × FieldType)) (sz sa : Nat) (fs : List Value) (hw0 : ws[0]? = some (a, .inr (9, fs))) (hf0 : fs[14]? = some (.int 0)) :
    Met l yL_out (.codeWith yL_out cL_out 4 (some .int) [(0, 9, 12, 13)] :: ax_W) { frames := 7, cells := 1, slots := 6, locals := 120 } (ax_PO D [.ref a, .int p0, .ref o3] ws tys sz sa) (va_Qi (S := Unit) (fun r _ => r = 1) (fun _ t => va_P D vwCl ws t.heap ∧ va_K D vwCl tys t) (va_A ws sz)) 1 6 (va_A ws sz) := by
  refine va_MetW (cc := cL_out) (maxL := 4) (ret := some .int) (by decide) rfl ?_
  intro p e s m args below meth c s₁ B hml hv
  obtain ⟨⟨rfl, hsz, hP, hK, hD0, hN, hAO⟩, hcast, hstr, hU0, hNn⟩ := hv
  have hx := B.exec
  have hb := B.bytes
  have hr := B.returns
  have hts0 := atoms_spec (ws := .codeWith yL_out cL_out 4 (some .int) [(0, 9, 12, 13)] :: ax_W) B.pre
  have hts : ∀ w ∈ ax_W, w.before ([.ref a, .int p0, .ref o3] : List Value).toArray s = true := fun w hw => hts0 w (List.mem_cons_of_mem _ hw)
  have htab := vx_table (x := yL_out) B (hts0 _ List.mem_cons_self)
  rw [ax_lo_tab] at htab
  have hown : s.vm.findClass RL = some m.cls := findClass_of_methodNamed B.named
  have hlocks := B.notSynchronized
  subst hsz
  have hA : ∀ q : Nat, s.heap.size ≤ q → va_A ws s.heap.size q := fun q h => Or.inr h
  have hS : va_S (va_A ws s.heap.size) s.heap s.heap [] := va_S.rf
  have hl := lv_entry ([.ref a, .int p0, .ref o3]) (n := 4) (Nat.le_of_ble_eq_true rfl)
  rw [lg_entry_eq]
  generalize (lg_sl ([.ref a, .int p0, .ref o3]) ++ List.replicate (4 - (lg_sl ([.ref a, .int p0, .ref o3])).length) Slot.unset).toArray = ls at hl ⊢
  have hl : lv_has ls 4 [(0, .ref a), (1, .int p0), (2, .ref o3)] := hl
  refine lv_aload_n hx hb dP_0 rfl (lv_at hl 2 rfl) ?_
  refine lv_iconst (v := 0) hx hb dP_1 (by decide) ?_
  refine lv_aload_n hx hb dP_2 rfl (lv_at hl 0 rfl) ?_
  refine lv_iload_n hx hb dP_3 rfl (lv_at hl 1 rfl) ?_
  have hgood : GoodIn ax_W (.code yX11_out cX11_out 2 (some .int) :: ax_W) := by
    intro w hw
    have h1 : w ∈ ax_W := by
      rcases List.mem_cons.mp hw with rfl | h
      · exact ax_in _ ax_outcode (by decide)
      · exact h
    exact ⟨h1, good_of_word (List.mem_filter.mp h1).2⟩
  refine vx_calli (vx_runV (As := [.int p0]) (rest := [.int 0, .ref o3]) (C := RX11) ⟨hx, hb, hml, hown, hts⟩ (ax_out_c l hfl D a p0 ws tys s.heap.size sa fs hw0 hf0)
    ⟨callB_of 1 hts hgood rfl rfl rfl (hts _ ax_w8) (hts _ ax_w4) (by decide +kernel) ⟨by decide, by decide⟩, hts _ ax_w9, hts _ ax_w10⟩
    ⟨ax_blindO, va_recv hK hP (ci := 9) rfl hw0, fun U hU hW => ⟨⟨rfl, by rw [hU], by rw [hU]; exact hP, va_K.moved hW.alike hK, hD0, ax_nest_warm hW hN, va_AO.moved hW.alike hAO⟩, ax_thB_warm hW hcast, vk_R.warm hW hstr, by rw [hU]; exact vx_Zq.moved hW.alike hU0, by rw [hU]; exact vx_Zq.moved hW.alike hNn⟩⟩
    rfl rfl hl.1 rfl (lv_room (Nat.le_of_ble_eq_true rfl)) dP_4 ⟨by decide, by decide⟩) hS (fun q _ h => h.elim) (fun q h => h) (fun q _ h => h.elim) (fun E ce q9 u t H1 locs1 ht hal _ hE hz hk hS1 hce hcv hcl => ?_) (fun r u t H1 locs1 ht hal hr0 => hr0.elim)
  subst hE
  have hP1 := ax_keepP hP hk
  refine ax_catch1 (own := RL) (name := ax_EX) (E := ax_EX) hown _ htab (by decide) (by decide) (hts _ ax_w3) (va_Nw.use rfl (hcast _ List.mem_cons_self)) hce hcv hcl ?_
  refine lv_astore_n (lv' := [(3, .ref q9), (0, .ref a), (1, .int p0), (2, .ref o3)]) hx hb dP_12 rfl hl (by decide) rfl (fun ls hl => ?_)
  refine lv_iconst (v := 1) hx hb dP_13 (by decide) ?_
  exact W.zret (ty := .int) hx hb hr rfl (fun tt h1 h2 => ⟨⟨1, (), rfl, rfl, by rw [h1]; exact hP1, va_K.moved h2.alike hK⟩, hS1.F h1⟩) hS1.2.2 dP_14
end AXO
