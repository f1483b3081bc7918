/-! THE PURE MACHINE: arraycopy, calls -/
section PMC
def pm_Pc (D : va_G) (sa : List Nat) (vs : List Value) (ws : va_W) (tys : List (ClassId × FieldType)) (sz : Nat) : Array Value → State → Prop := fun a U =>
  a = vs.toArray ∧ U.heap.size = sz ∧ va_P D vwCl ws U.heap ∧ va_K D vwCl tys U ∧ va_D (fun _ => True) ws ∧ (∀ w ∈ ax_nest, va_Nw w U) ∧ va_AO RX4 U ∧ (∀ w ∈ pm_nest, va_Nw w U) ∧ pm_St sa (va_A ws sz) U U.heap
def pm_Qc (b : Nat) (sa : List Nat) (L : Nat) (xs : Nat → Int32) (D : va_G) (Q : pm_Q) (ret : Option FieldType) (ws : va_W) (sz : Nat) : Array Value → State → Outcome → State → Prop := fun _ st oc t =>
  (∃ (r : Int) (τ : pm_H) (v : Option Value) (ws1 : va_W) (tys1 : List (ClassId × FieldType)), oc = .returned v ∧ Q r τ ∧ ax_all2 (pm_ok (pm_RR b ws1 sa)) (pm_rs ret r) v.toList ∧ pm_hps b sa (ws.map (fun q => q.1)) L xs τ ws1 tys1 ∧
    va_P D vwCl ws1 t.heap ∧ va_K D vwCl tys1 t ∧ va_D (va_A ws sz) ws1) ∧ va_F (va_A ws sz) st t
/-- what is known of all methods that 'call' tells, with d frames -/
def pm_Con (l : Launch) (call : pm_Call) (d : Nat) : Prop := ∀ (b : Nat) (sa : List Nat) (L : Nat) (xs : Nat → Int32) (D : va_G) (mi : Nat) (t : ax_T) (as : List pm_V) (σ : pm_H) (Q : pm_Q), ax_tab[mi]? = some t → call mi as σ Q → t.2.2.2.2.2.2.1 = 0 → t.2.2.2.2.2.2.2 = 0 →
  ∀ (vs : List Value) (ws : va_W) (tys : List (ClassId × FieldType)) (sz : Nat), ax_all2 (pm_ok (pm_RR b ws sa)) as vs → pm_hps b sa (ws.map (fun q => q.1)) L xs σ ws tys →
  Met l t.1 (.code t.1 t.2.1 t.2.2.1 t.2.2.2.1 :: ax_W) { frames := d, cells := 0, slots := 0, locals := 40 * d } (pm_Pc D sa vs ws tys sz) (pm_Qc b sa L xs D Q t.2.2.2.1 ws sz) 0 0 (va_A ws sz)
theorem pm_nest_warm {s U : State} (hW : s.WarmedH U.vm) (h : ∀ w ∈ pm_nest, va_Nw w s) : ∀ w ∈ pm_nest, va_Nw w U := by
  intro w hw
  have h1 := h w hw
  simp only [pm_nest, List.mem_cons, List.not_mem_nil, or_false] at hw
  rcases hw with rfl | rfl | rfl | rfl | rfl | rfl | rfl | rfl | rfl <;> exact va_Nw.warmF hW h1
theorem pm_blind {D : va_G} {sa : List Nat} {vs : List Value} {ws : va_W} {tys : List (ClassId × FieldType)} {sz : Nat} : FrameBlind (pm_Pc D sa vs ws tys sz) := by
  intro a U g mk q
  obtain ⟨q0, q1, qP, qK, qD, qN, qA, qF, qS⟩ := q
  exact ⟨q0, q1, qP, va_K.moved (u := U) (U := U.calling g mk a) (Vm.Alike.refl U.vm) qK, qD, fun w hw => va_Nw.same (u := U) (U := U.calling g mk a) (ax_nest_tab w hw) rfl (qN w hw), va_AO.moved (u := U) (U := U.calling g mk a) (Vm.Alike.refl U.vm) qA, fun w hw => va_Nw.same (u := U) (U := U.calling g mk a) (pm_nest_tab w hw) rfl (qF w hw), pm_St.moved (u := U) (U := U.calling g mk a) (Vm.Alike.refl U.vm) qS⟩
variable {p : Program} {l : Launch} {e : Env} {R : Room} {s : State} {m : MethodId} {args : Array Value} {below : List Frame} {meth : Method} {c : Code} {Q : State → Prop} {D : va_G} {A : Nat → Prop} {b own nL L1 L d : Nat} {cc : ByteArray} {xs : Nat → Int32} {sa wa : List Nat} {cn : Nat × Nat} {call : pm_Call} {Qr : pm_Q} {len pc : Nat} {lv : pm_L} {st : List pm_V} {σ : pm_H} {o : pm_N}
theorem pm_AF {ws : va_W} {H : Heap} {locs : List Loc} (hA : ∀ q, s.heap.size ≤ q → A q) (hD : va_D A ws) (hS : va_S A s.heap H locs) : ∀ q, va_A ws H.size q → A q := by
  intro q hq
  rcases hq with ⟨k, e, hq⟩ | hq
  · exact hD.2 k _ hq
  · exact hA q (Nat.le_trans hS.1 hq)
theorem pm_pre {vs : List Value} {ws : va_W} {tys : List (ClassId × FieldType)} {H : Heap} {locs : List Loc} (X : pm_X p R s m args c A b own nL L1 L d cc xs sa cn) (hK : va_K D vwCl tys s) (hP : va_P D vwCl ws H) (hD : va_D A ws) (hS : va_S A s.heap H locs) : PreS s H (pm_Pc D sa vs ws tys H.size) vs := by
  obtain ⟨-, hn, hf, hao, hA, -, hst, -⟩ := X
  have h1 : pm_St sa (va_A ws H.size) s H := (hst.kept hS.2.1).narrow (pm_AF hA hD hS)
  exact ⟨pm_blind, fun U hU hW => ⟨rfl, by rw [hU], by rw [hU]; exact hP, va_K.moved hW.alike hK, hD.weaken (fun _ _ _ _ => trivial), ax_nest_warm hW hn, va_AO.moved hW.alike hao, pm_nest_warm hW hf, by rw [hU]; exact pm_St.moved hW.alike h1⟩⟩
theorem pm_after {ret : Option FieldType} {rest : List pm_V} {Q0 : pm_Q} {cv : List (Nat × Value)} {st0 cr : List Value} {ws : va_W} {ls : Array Slot} {H : Heap} {locs : List Loc} {ar : Array Value} (hA : ∀ q, s.heap.size ≤ q → A q)
    (hr : va_Run p l e R s m args below meth c H locs cn.1 cn.2 0 0 (F0 m pc ls st0) cr (pm_Qc b sa L xs D Q0 ret ws H.size ar) (va_A ws H.size))
    (hwa : ws.map (fun q => q.1) = wa) (M2 : pm_lvs (pm_RR b ws sa) lv cv) (M3 : ax_all2 (pm_ok (pm_RR b ws sa)) rest cr)
    (hls : lv_has ls nL cv) (hD : va_D A ws) (hS : va_S A s.heap H locs)
    (hG : ∀ r τ, Q0 r τ → pm_G p l e R s m args below meth c Q D A b nL L xs sa wa cn (pc + 3, lv, pm_rs ret r ++ rest, τ)) : W p l e R s m args below meth c H locs cn.1 cn.2 Q (F0 m pc ls st0) := by
  intro T hT X
  obtain ⟨v, st₀, t, T', Lc, h0, X', hL, e1, e2, ⟨⟨r, τ, v', ws1, tys1, hv, hq, q1, q3, q5, q6, q7⟩, hz, hk⟩, stp⟩ := hr T hT X
  cases hv
  rw [h0] at hz hk
  have hF := pm_AF hA hD hS
  have hR : pm_RR b ws1 sa = pm_RR b ws sa := by
    unfold pm_RR
    rw [q3.2.2.2.2]
  rw [hwa] at q3
  have hS' : va_S A s.heap T'.heap (locs ++ Lc) := ⟨Nat.le_trans hS.1 (by rw [e1]; exact hz), fun q h1 h2 => by rw [e1, hk q (Nat.lt_of_lt_of_le h1 hS.1) (fun z => h2 (hF q z))]; exact hS.2.1 q h1 h2, fun q hq => by
      rcases List.mem_append.mp hq with h | h
      · exact hS.2.2 q h
      · exact hF _ (hL q h)⟩
  obtain ⟨t2, a1, b1⟩ := hG r τ hq cv (v.toList ++ cr) ws1 tys1 ls T'.heap (locs ++ Lc) ⟨by rw [hR]; exact M2, by rw [hR]; exact ax_all2_app (by rw [hR] at q1; exact q1) M3, q3⟩ hls (va_K.moved (show t.vm.Alike s.vm from by rw [← e2]; exact X'.warmed.alike.symm) q6) (by rw [e1]; exact q5) (q7.weaken (fun _ q _ h => hF q.1 h)) hS' T' rfl X'
  exact ⟨t2, stp t2 a1, b1⟩
theorem pm_do_ok (hA : ∀ q, s.heap.size ≤ q → A q) (hcon : pm_Con l call d) {mi : Nat} {t : ax_T} {as rest : List pm_V} {cv : List (Nat × Value)} {st0 cr vs : List Value} {ws : va_W} {tys : List (ClassId × FieldType)} {ls : Array Slot} {H : Heap} {locs : List Loc}
    (ht : ax_tab[mi]? = some t) (h : pm_do mi t as rest len pc lv = some o) (hG : pm_NG call Qr σ (pm_G p l e R s m args below meth c Q D A b nL L xs sa wa cn) o)
    (run : ∀ Q0, Met l t.1 (ax_ws t) { frames := d, cells := 0, slots := 0, locals := 40 * d } (pm_Pc D sa vs ws tys H.size) (pm_Qc b sa L xs D Q0 t.2.2.2.1 ws H.size) 0 0 (va_A ws H.size) → (cr.map fun v => v.category).sum ≤ 8 → t.2.2.1 ≤ 21 → len = 3 →
      va_Run p l e R s m args below meth c H locs cn.1 cn.2 0 0 (F0 m pc ls st0) cr (pm_Qc b sa L xs D Q0 t.2.2.2.1 ws H.size vs.toArray) (va_A ws H.size))
    (M2 : pm_lvs (pm_RR b ws sa) lv cv) (M3 : ax_all2 (pm_ok (pm_RR b ws sa)) rest cr) (M4 : pm_hps b sa wa L xs σ ws tys) (M5 : ax_all2 (pm_ok (pm_RR b ws sa)) as vs)
    (hls : lv_has ls nL cv) (hD : va_D A ws) (hS : va_S A s.heap H locs) : W p l e R s m args below meth c H locs cn.1 cn.2 Q (F0 m pc ls st0) := by
  unfold pm_do at h
  split at h
  · rename_i hl
    obtain ⟨hw, hm, hc1, hc2, hlen⟩ := hl
    cases h
    have hM := hcon b sa L xs D mi t as σ _ ht hG hc1 hc2 vs ws tys H.size M5 (by rw [M4.2.2.2.2]; exact M4)
    exact pm_after hA (run _ hM (by rw [← pm_words_ok M3]; exact hw) hm hlen) M4.2.2.2.2 M2 M3 hls hD hS (fun r τ h => h)
  · cases h
theorem pm_inv_ok (X : pm_X p R s m args c A b own nL L1 L d cc xs sa cn) (hcon : pm_Con l call d) {kd mi i : Nat} (hlk : ∀ t, ax_tab[mi]? = some t → Cond.methodLink (ax_nm own) i t.1 ∈ ax_W ∨ Cond.methodLinkNest (ax_nm own) i t.1 "SymmetryHouse" ∈ ax_nest)
    (hd : decode cc pc = .ok (match kd with | 0 => .invokestatic i | _ => .invokevirtual i, len)) (hkd : kd ≤ 1)
    (h : pm_inv kd mi len pc lv st = some o) (hG : pm_NG call Qr σ (pm_G p l e R s m args below meth c Q D A b nL L xs sa wa cn) o) : pm_G p l e R s m args below meth c Q D A b nL L xs sa wa cn (pc, lv, st, σ) := by
  have X0 := X
  obtain ⟨S, hnest, hfn, hao, hA, ⟨hmc, hms, hfr, hlo⟩, -, -⟩ := X
  have hts := S.2.2.2.2
  unfold pm_inv at h
  split at h
  · cases h
  · rename_i t ht
    split at h
    · rename_i hk
      obtain ⟨f1, f2, f3, f4, f5, f6, f7, f8⟩ := ax_tab_ok ht
      have hgood := ax_goodIn (Ts := ax_W) (ax_tab_ok ht) rfl
      rcases Nat.eq_zero_or_pos kd with rfl | hkp
      · have h : (if t.2.2.2.2.2.1 ≤ st.length then pm_do mi t (st.take t.2.2.2.2.2.1).reverse (st.drop t.2.2.2.2.2.1) len pc lv else none) = some o := h
        split at h
        · rename_i hlen
          intro cv cs ws tys ls H locs M hls hK hP hD hS
          have hcl : st.length = cs.length := ax_all2_len M.2.1
          refine pm_do_ok (vs := (cs.take t.2.2.2.2.2.1).reverse) (cr := cs.drop t.2.2.2.2.2.1) hA hcon ht h hG ?_ M.1 (ax_all2_drop _ M.2.1) M.2.2 (ax_all2_rev (ax_all2_take _ M.2.1)) hls hD hS
          intro Q0 hM hwd hml hl3
          subst hl3
          have hst : cs = ((cs.take t.2.2.2.2.2.1).reverse).reverse ++ cs.drop t.2.2.2.2.2.1 := by rw [List.reverse_reverse, List.take_append_drop]
          have hn : ((cs.take t.2.2.2.2.2.1).reverse).length = t.2.2.2.2.2.1 := by rw [List.length_reverse, List.length_take]; omega
          rcases hlk t ht with hk9 | hk9
          · exact va_runS S hM ⟨callB_of _ hts hgood rfl rfl rfl (hts _ f1) (hts _ hk9) f5 ⟨hfr, by dsimp only; omega⟩, hts _ (f2 hk)⟩ (pm_pre X0 hK hP hD hS) rfl hn hls.1 hst (lv_room hwd) hd ⟨hmc, hms⟩
          · exact va_runSN S hM ⟨va_cnB _ hts hgood rfl rfl rfl (hnest _ hk9) (hts _ f1) f5 ⟨hfr, by dsimp only; omega⟩, hts _ (f2 hk), trivial⟩ (pm_pre X0 hK hP hD hS) rfl hn hls.1 hst (lv_room hwd) hd ⟨hmc, hms⟩
        · cases h
      · obtain rfl : kd = 1 := by omega
        have h : (match st.drop t.2.2.2.2.2.1 with
          | .inr (.inr (some (q + 1))) :: rest => match pm_sh[q]? with
            | some (.inl (ci, _)) => if (vwCl[ci]?).map (fun z => z.1) = some t.1.cls then pm_do mi t (.inr (.inr (some (q + 1))) :: (st.take t.2.2.2.2.2.1).reverse) rest len pc lv else none
            | _ => none
          | _ => none) = some o := h
        split at h
        · rename_i q rest hdr
          split at h
          · rename_i ci afs hq
            split at h
            · rename_i hC
              intro cv cs ws tys ls H locs M hls hK hP hD hS
              have M3 := M.2.1
              have hcl : st.length = cs.length := ax_all2_len M3
              have hdl := ax_all2_drop t.2.2.2.2.2.1 M3
              rw [hdr] at hdl
              obtain ⟨v, cr, hcr, e1, e2⟩ := ax_popk hdl
              obtain ⟨a, rfl, e3⟩ := pm_ok_r e1
              obtain ⟨w, e4⟩ : ∃ w, ws[q]? = some w := ⟨_, List.getElem?_eq_getElem (by rw [M.2.2.1]; exact pm_sh_len hq)⟩
              have e6 := pm_at e3 e4
              obtain ⟨vs0, e7, e8, e9⟩ := M.2.2.2.1 q _ w hq e4
              rw [e7] at e6
              subst e6
              obtain ⟨z, g1, g2⟩ := Option.map_eq_some_iff.mp hC
              have hn0 : t.2.2.2.2.2.1 ≤ cs.length := by
                rcases Nat.lt_or_ge cs.length t.2.2.2.2.2.1 with h1 | h1
                · rw [List.drop_eq_nil_of_le (Nat.le_of_lt h1)] at hcr
                  cases hcr
                · exact h1
              refine pm_do_ok (vs := .ref a :: (cs.take t.2.2.2.2.2.1).reverse) (cr := cr) hA hcon ht h hG ?_ M.1 e2 M.2.2 ⟨e1, ax_all2_rev (ax_all2_take _ M3)⟩ hls hD hS
              intro Q0 hM hwd hml hl3
              subst hl3
              have hst : cs = ((cs.take t.2.2.2.2.2.1).reverse).reverse ++ .ref a :: cr := by rw [List.reverse_reverse, ← hcr, List.take_append_drop]
              have hn : ((cs.take t.2.2.2.2.2.1).reverse).length = t.2.2.2.2.2.1 := by rw [List.length_reverse, List.length_take]; omega
              have hrv := va_recv hK hP g1 e4
              rw [g2] at hrv
              rcases hlk t ht with hk9 | hk9
              · exact va_runV S hM ⟨callB_of _ hts hgood rfl rfl rfl (hts _ f1) (hts _ hk9) f5 ⟨hfr, by dsimp only; omega⟩, hts _ (f3 hk).1, hts _ (f3 hk).2⟩ ⟨pm_blind, hrv, (pm_pre X0 hK hP hD hS).2⟩ rfl hn hls.1 hst (lv_room hwd) hd ⟨hmc, hms⟩
              · exact va_runVN S hM ⟨va_cnB _ hts hgood rfl rfl rfl (hnest _ hk9) (hts _ f1) f5 ⟨hfr, by dsimp only; omega⟩, hts _ (f3 hk).1, hts _ (f3 hk).2⟩ ⟨pm_blind, hrv, (pm_pre X0 hK hP hD hS).2⟩ rfl hn hls.1 hst (lv_room hwd) hd ⟨hmc, hms⟩
            · cases h
          · cases h
        · cases h
    · cases h
theorem pm_invk_ok (X : pm_X p R s m args c A b own nL L1 L d cc xs sa cn) (hcon : pm_Con l call d) {kd i : Nat} (hd : decode cc pc = .ok (match kd with | 0 => .invokestatic i | _ => .invokevirtual i, len)) (hkd : kd ≤ 1)
    (h : pm_invk own kd i len pc lv st = some o) (hG : pm_NG call Qr σ (pm_G p l e R s m args below meth c Q D A b nL L xs sa wa cn) o) : pm_G p l e R s m args below meth c Q D A b nL L xs sa wa cn (pc, lv, st, σ) := by
  unfold pm_invk at h
  split at h
  · rename_i mi q hl
    exact pm_inv_ok X hcon (fun t ht => Or.inl (ax_lnk_ok hl ht)) hd hkd h hG
  · split at h
    · rename_i o2 i2 mi hl
      exact pm_inv_ok X hcon (fun t ht => Or.inr (ax_nlk_ok hl ht)) hd hkd h hG
    · cases h
end PMC
