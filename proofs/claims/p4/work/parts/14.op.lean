/-! ABSTRACT RUNS: calls are sound, an instruction is, a run is, a method is -/
section AXD
variable {p : Program} {l : Launch} {e : Env} {R : Room} {s : State} {m : MethodId} {args : Array Value} {below : List Frame} {meth : Method} {c : Code} {Q : State → Prop} {D : va_G} {A : Nat → Prop} {b : Nat} {γ : Nat → Int} {pv : List Value} {own : Nat} {ini : Bool} {nL L mc ms d : Nat} {cc : ByteArray} {xs : Nat → Int32} {call : ax_F}
abbrev ax_rm (t : ax_T) (d : Nat) : Room := { frames := d, cells := t.2.2.2.2.2.2.1, slots := t.2.2.2.2.2.2.2, locals := 40 * d }
abbrev ax_ws (t : ax_T) : List Cond := .code t.1 t.2.1 t.2.2.1 t.2.2.2.1 :: ax_W
theorem ax_do_ok (hA : ∀ q, s.heap.size ≤ q → A q) (hcon : ax_Con l call d) (hR : mc ≤ R.cells ∧ ms ≤ R.slots) {mi len pc : Nat} {t : ax_T} {as rest : ax_K} {lv : ax_L} {hp : List ax_C} {pr : List ax_V} {cn : Nat × Nat} {out : List ax_S} {cv : List (Nat × Value)} {st0 cr vs : List Value} {ws : va_W} {tys : List (ClassId × FieldType)} {ls : Array Slot} {H : Heap} {locs : List Loc}
    (ht : ax_tab[mi]? = some t) (h : ax_do call mi mc ms t as rest len pc lv hp pr cn = some out) (hG : ∀ S ∈ out, ax_G p l e R s m args below meth c Q D A b γ pv nL S)
    (run : ∀ outs, Met l t.1 (ax_ws t) (ax_rm t d) (ax_Pc D vs ws tys H.size) (ax_Qc γ b D outs vs ws H.size) t.2.2.2.2.2.2.1 t.2.2.2.2.2.2.2 (va_A ws H.size) → (cn.1 + t.2.2.2.2.2.2.1 ≤ R.cells ∧ cn.2 + t.2.2.2.2.2.2.2 ≤ R.slots) → (cr.map fun v => v.category).sum ≤ 8 → t.2.2.1 ≤ 21 → len = 3 →
      va_Run p l e R s m args below meth c H locs cn.1 cn.2 t.2.2.2.2.2.2.1 t.2.2.2.2.2.2.2 (F0 m pc ls st0) cr (ax_Qc γ b D outs vs ws H.size vs.toArray) (va_A ws H.size))
    (M1 : ax_all2 (ax_ok γ (ax_RR b ws)) pr pv) (M2 : ax_lvs γ (ax_RR b ws) pv lv cv) (M3 : ax_all2 (ax_sok γ (ax_RR b ws) pv cv ws) rest cr) (M4 : ax_hps γ (ax_RR b ws) tys hp ws) (M5 : ax_all2 (ax_sok γ (ax_RR b ws) pv cv ws) as vs)
    (hls : lv_has ls nL cv) (hD : va_D A ws) (hS : va_S A s.heap H locs) : W p l e R s m args below meth c H locs cn.1 cn.2 Q (F0 m pc ls st0) := by
  unfold ax_do at h
  split at h
  · rename_i hl
    obtain ⟨hw, hm, hc1, hc2, hlen⟩ := hl
    split at h
    · rename_i outs ho
      cases h
      have hM := hcon γ b D mi t _ hp outs ht ho vs ws tys H.size (ax_all2_mapL _ (fun q v h => h.1) M5) M4
      refine ax_after (hp := hp) (tys := tys) hA (run outs hM ⟨Nat.le_trans hc1 hR.1, Nat.le_trans hc2 hR.2⟩ (by rw [← ax_cat_sum M3]; exact hw) hm hlen) M1 M2 M3 M5 hls hD hS (fun o ho => hG _ (List.mem_map.mpr ⟨o, ho, rfl⟩))
    · cases h
  · cases h
theorem ax_inv_ok (X : ax_X p R s m args meth c A b γ pv own ini nL L mc ms d cc xs) (hcon : ax_Con l call d) {kd mi i len pc : Nat} {lv : ax_L} {st : ax_K} {hp : List ax_C} {pr : List ax_V} {cn : Nat × Nat} {out : List ax_S} (hlk : ∀ t, ax_tab[mi]? = some t → Cond.methodLink (ax_nm own) i t.1 ∈ ax_W ∨ Cond.methodLinkNest (ax_nm own) i t.1 "SymmetryHouse" ∈ ax_nest)
    (hd : decode cc pc = .ok (match kd with | 0 => .invokestatic i | 1 => .invokevirtual i | _ => .invokespecial i, len)) (hkd : kd ≤ 2)
    (h : ax_inv call kd mi mc ms len pc lv st hp pr cn = some out) (hG : ∀ S ∈ out, ax_G p l e R s m args below meth c Q D A b γ pv nL S) : ax_G p l e R s m args below meth c Q D A b γ pv nL (pc, lv, st, hp, pr, cn) := by
  obtain ⟨S, hini, hnest, hao, hA, ⟨hmc, hms, hfr, hlo⟩, -⟩ := X
  have hts := S.2.2.2.2
  unfold ax_inv at h
  split at h
  · cases h
  · rename_i t ht
    split at h
    · rename_i hk
      have hT := ax_tab_ok ht
      obtain ⟨f1, f2, f3, f4, f5, f6, f7, f8⟩ := hT
      have hgood := ax_goodIn (Ts := ax_W) (ax_tab_ok ht) rfl
      rcases Nat.eq_zero_or_pos kd with rfl | hkp
      · have h : (if t.2.2.2.2.2.1 ≤ st.length then ax_do call mi mc ms t (st.take t.2.2.2.2.2.1).reverse (st.drop t.2.2.2.2.2.1) len pc lv hp pr cn else none) = some out := h
        split at h
        · rename_i hlen
          intro cv cs ws tys ls H locs M hls hK hP hD hS
          have hcl : st.length = cs.length := ax_all2_len M.2.2.1
          refine ax_do_ok (vs := (cs.take t.2.2.2.2.2.1).reverse) (cr := cs.drop t.2.2.2.2.2.1) hA hcon ⟨hmc, hms⟩ ht h hG ?_ M.1 M.2.1 (ax_all2_drop _ M.2.2.1) M.2.2.2 (ax_all2_rev (ax_all2_take _ M.2.2.1)) hls hD hS
          intro outs hM hroom hwd hml hl3
          subst hl3
          have hst : cs = ((cs.take t.2.2.2.2.2.1).reverse).reverse ++ cs.drop t.2.2.2.2.2.1 := by rw [List.reverse_reverse, List.take_append_drop]
          have hn : ((cs.take t.2.2.2.2.2.1).reverse).length = t.2.2.2.2.2.1 := by rw [List.length_reverse, List.length_take]; omega
          rcases hlk t ht with hk9 | hk9
          · exact va_runS S hM ⟨callB_of _ hts hgood rfl rfl rfl (hts _ f1) (hts _ hk9) f5 ⟨hfr, by dsimp only; omega⟩, hts _ (f2 hk)⟩ (ax_pre hnest hao hK hP hD) rfl hn hls.1 hst (lv_room hwd) hd hroom
          · exact va_runSN S hM ⟨va_cnB _ hts hgood rfl rfl rfl (hnest _ hk9) (hts _ f1) f5 ⟨hfr, by dsimp only; omega⟩, hts _ (f2 hk), trivial⟩ (ax_pre hnest hao hK hP hD) rfl hn hls.1 hst (lv_room hwd) hd hroom
        · cases h
      · obtain ⟨k1, rfl⟩ : ∃ k1, kd = k1 + 1 := ⟨kd - 1, by omega⟩
        have h : (match st.drop t.2.2.2.2.2.1 with
          | (.inr (.inr (some (q + 1))), o) :: rest => match hp[q]? with
            | some (.inl (ci, _)) => if (vwCl[ci]?).map (fun z => z.1) = some t.1.cls then ax_do call mi mc ms t ((.inr (.inr (some (q + 1))), o) :: (st.take t.2.2.2.2.2.1).reverse) rest len pc lv hp pr cn else none
            | _ => none
          | _ => none) = some out := h
        split at h
        · rename_i q o rest hdr
          split at h
          · rename_i ci afs hq
            split at h
            · rename_i hC
              intro cv cs ws tys ls H locs M hls hK hP hD hS
              have M3 := M.2.2.1
              have hcl : st.length = cs.length := ax_all2_len M3
              have hdl := ax_all2_drop t.2.2.2.2.2.1 M3
              rw [hdr] at hdl
              obtain ⟨v, cr, hcr, e1, e2⟩ := ax_popk hdl
              obtain ⟨a, rfl, e3⟩ := ax_ok_r e1.1
              obtain ⟨w, e4, e5⟩ := ax_all2_get M.2.2.2 hq
              have e6 := ax_at e3 e4
              obtain ⟨vs0, e7, e8⟩ := ax_cok_o e5
              rw [e7] at e6
              subst e6
              obtain ⟨z, g1, g2⟩ := Option.map_eq_some_iff.mp hC
              have hn0 : t.2.2.2.2.2.1 ≤ cs.length := by
                rcases Nat.lt_or_ge cs.length t.2.2.2.2.2.1 with h1 | h1
                · rw [List.drop_eq_nil_of_le (Nat.le_of_lt h1)] at hcr
                  cases hcr
                · exact h1
              refine ax_do_ok (vs := .ref a :: (cs.take t.2.2.2.2.2.1).reverse) (cr := cr) hA hcon ⟨hmc, hms⟩ ht h hG ?_ M.1 M.2.1 e2 M.2.2.2 ⟨e1, ax_all2_rev (ax_all2_take _ M3)⟩ hls hD hS
              intro outs hM hroom hwd hml hl3
              subst hl3
              have hst : cs = ((cs.take t.2.2.2.2.2.1).reverse).reverse ++ .ref a :: cr := by rw [List.reverse_reverse, ← hcr, List.take_append_drop]
              have hn : ((cs.take t.2.2.2.2.2.1).reverse).length = t.2.2.2.2.2.1 := by rw [List.length_reverse, List.length_take]; omega
              have hrv := va_recv hK hP g1 e4
              rw [g2] at hrv
              rcases (show k1 = 0 ∨ k1 = 1 by omega) with rfl | rfl
              · rcases hlk t ht with hk9 | hk9
                · exact va_runV S hM ⟨callB_of _ hts hgood rfl rfl rfl (hts _ f1) (hts _ hk9) f5 ⟨hfr, by dsimp only; omega⟩, hts _ (f3 hk).1, hts _ (f3 hk).2⟩ ⟨ax_blind, hrv, (ax_pre hnest hao hK hP hD).2⟩ rfl hn hls.1 hst (lv_room hwd) hd hroom
                · exact va_runVN S hM ⟨va_cnB _ hts hgood rfl rfl rfl (hnest _ hk9) (hts _ f1) f5 ⟨hfr, by dsimp only; omega⟩, hts _ (f3 hk).1, hts _ (f3 hk).2⟩ ⟨ax_blind, hrv, (ax_pre hnest hao hK hP hD).2⟩ rfl hn hls.1 hst (lv_room hwd) hd hroom
              · obtain ⟨j1, j2, j3⟩ := f4 hk
                rcases hlk t ht with hk9 | hk9
                · exact va_runI S hM ⟨callB_of _ hts hgood (by rw [← j3]) rfl rfl (hts _ f1) (hts _ hk9) f5 ⟨hfr, by dsimp only; omega⟩, j2, hts _ j1⟩ (ax_pre hnest hao hK hP hD) rfl hn hls.1 hst (lv_room hwd) hd hroom
                · exact va_runIN S hM ⟨va_cnB _ hts hgood (by rw [← j3]) rfl rfl (hnest _ hk9) (hts _ f1) f5 ⟨hfr, by dsimp only; omega⟩, j2, hts _ j1⟩ (ax_pre hnest hao hK hP hD) rfl hn hls.1 hst (lv_room hwd) hd hroom
            · cases h
          · cases h
        · cases h
    · cases h
theorem ax_invk_ok (X : ax_X p R s m args meth c A b γ pv own ini nL L mc ms d cc xs) (hcon : ax_Con l call d) {kd i len pc : Nat} {lv : ax_L} {st : ax_K} {hp : List ax_C} {pr : List ax_V} {cn : Nat × Nat} {out : List ax_S}
    (hd : decode cc pc = .ok (match kd with | 0 => .invokestatic i | 1 => .invokevirtual i | _ => .invokespecial i, len)) (hkd : kd ≤ 2)
    (h : ax_invk call own kd i mc ms len pc lv st hp pr cn = some out) (hG : ∀ S ∈ out, ax_G p l e R s m args below meth c Q D A b γ pv nL S) : ax_G p l e R s m args below meth c Q D A b γ pv nL (pc, lv, st, hp, pr, cn) := by
  unfold ax_invk at h
  split at h
  · rename_i mi q hl
    exact ax_inv_ok X hcon (fun t ht => Or.inl (ax_lnk_ok hl ht)) hd hkd h hG
  · split at h
    · rename_i o2 i2 mi hl
      exact ax_inv_ok X hcon (fun t ht => Or.inr (ax_nlk_ok hl ht)) hd hkd h hG
    · cases h
def ax_ochk (e : Nat × (Nat × Nat)) : Bool := decide (lw_tbl[e.2.2]? = some (.methodLink (ax_nm e.1) e.2.1 objectInit)) && goodWord (.methodLink (ax_nm e.1) e.2.1 objectInit)
set_option maxRecDepth 100000 in
theorem ax_ochk_ok : ax_oi.all ax_ochk = true := by decide +kernel
theorem ax_oif_ok {o i : Nat} {e : Nat × (Nat × Nat)} (h : ax_oif o i = some e) : Cond.methodLink (ax_nm o) i objectInit ∈ ax_W := by
  unfold ax_oif at h
  have hm := List.mem_of_find?_eq_some h
  have hp := List.find?_some h
  simp only [Bool.and_eq_true, beq_iff_eq] at hp
  obtain ⟨rfl, rfl⟩ := hp
  have h1 := List.all_eq_true.mp ax_ochk_ok _ hm
  unfold ax_ochk at h1
  simp only [Bool.and_eq_true, decide_eq_true_eq] at h1
  exact ax_in _ h1.1 h1.2
theorem ax_spec_ok (X : ax_X p R s m args meth c A b γ pv own ini nL L mc ms d cc xs) (hcon : ax_Con l call d) {i len pc : Nat} {lv : ax_L} {st : ax_K} {hp : List ax_C} {pr : List ax_V} {cn : Nat × Nat} {out : List ax_S} (hd : decode cc pc = .ok (.invokespecial i, len)) (h : ax_spec call own i mc ms len pc lv st hp pr cn = some out) (hG : ∀ S ∈ out, ax_G p l e R s m args below meth c Q D A b γ pv nL S) : ax_G p l e R s m args below meth c Q D A b γ pv nL (pc, lv, st, hp, pr, cn) := by
  unfold ax_spec at h
  split at h
  · rename_i e0 ho
    obtain ⟨⟨hx, hb, hml, hown, hts⟩, -, -, -, -, ⟨-, -, hfr, hlo⟩, -⟩ := X
    split at h
    · split at h
      · rename_i hl
        obtain ⟨hw, rfl⟩ := hl
        cases h
        intro cv cs ws tys ls H locs M hls hK hP hD hS
        obtain ⟨v1, cr, rfl, e1, e2⟩ := ax_popk M.2.2.1
        obtain ⟨a, rfl, -⟩ := ax_ok_r e1.1
        have hw2 := lv_room (m := m) (pc := pc) (ls := ls) (rest := .ref a :: cr) (st := cr) (by rw [← ax_cat_sum e2]; exact hw)
        refine W.objInit (g := F0 m pc ls (.ref a :: cr)) hx hb hown (hts _ (ax_oif_ok ho)) (hts _ (ax_in _ ax_oiinst (by decide))) (hts _ (ax_in _ ax_oicode (by decide))) rfl (by rw [hml]; exact hls.1) rfl hd (by omega) (by omega) ?_
        refine W.eq (g2 := F0 m (pc + 3) ls cr) rfl ?_
        exact hG _ (List.mem_singleton.mpr rfl) cv _ ws tys ls H locs ⟨M.1, M.2.1, e2, M.2.2.2⟩ hls hK hP hD hS
      · cases h
    · cases h
  · exact ax_invk_ok (kd := 2) X hcon hd (Nat.le_refl 2) h hG
def ax_mmchk (e : Nat × (Nat × (Nat × Nat))) : Bool := match e.2.2.1 with
  | 0 => decide (lw_tbl[e.2.2.2]? = some (.methodLink (ax_nm e.1) e.2.1 Lib.Math.min.name)) && goodWord (.methodLink (ax_nm e.1) e.2.1 Lib.Math.min.name)
  | 1 => decide (lw_tbl[e.2.2.2]? = some (.methodLink (ax_nm e.1) e.2.1 Lib.Math.max.name)) && goodWord (.methodLink (ax_nm e.1) e.2.1 Lib.Math.max.name)
  | _ => false
set_option maxRecDepth 100000 in
theorem ax_mmchk_ok : ax_mm.all ax_mmchk = true := by decide +kernel
theorem ax_mmx_ok {k : Nat} {a b : ax_N} {x y : Int32} {γ : Nat → Int} (ha : ax_nok γ a x.toInt) (hb : ax_nok γ b y.toInt) : (k = 0 → ax_nok γ (ax_mmx k a.1 b.1, none) (if y < x then y else x).toInt) ∧ (k = 1 → ax_nok γ (ax_mmx k a.1 b.1, none) (if x < y then y else x).toInt) := by
  have h1 := ha.1
  have h2 := hb.1
  refine ⟨fun hk => ⟨?_, fun _ _ h => by cases h⟩, fun hk => ⟨?_, fun _ _ h => by cases h⟩⟩
  · subst hk
    have e : ax_mmx 0 a.1 b.1 = (min a.1.1 b.1.1, min a.1.2 b.1.2) := rfl
    rw [e]
    by_cases h : y < x
    · rw [if_pos h]; rw [Int32.lt_iff_toInt_lt] at h; dsimp only; omega
    · rw [if_neg h]; rw [Int32.lt_iff_toInt_lt] at h; dsimp only; omega
  · subst hk
    have e : ax_mmx 1 a.1 b.1 = (max a.1.1 b.1.1, max a.1.2 b.1.2) := rfl
    rw [e]
    by_cases h : x < y
    · rw [if_pos h]; rw [Int32.lt_iff_toInt_lt] at h; dsimp only; omega
    · rw [if_neg h]; rw [Int32.lt_iff_toInt_lt] at h; dsimp only; omega
theorem ax_stat_ok (X : ax_X p R s m args meth c A b γ pv own ini nL L mc ms d cc xs) (hcon : ax_Con l call d) {i len pc : Nat} {lv : ax_L} {st : ax_K} {hp : List ax_C} {pr : List ax_V} {cn : Nat × Nat} {out : List ax_S} (hd : decode cc pc = .ok (.invokestatic i, len)) (h : ax_stat call own i mc ms len pc lv st hp pr cn = some out) (hG : ∀ S ∈ out, ax_G p l e R s m args below meth c Q D A b γ pv nL S) : ax_G p l e R s m args below meth c Q D A b γ pv nL (pc, lv, st, hp, pr, cn) := by
  unfold ax_stat at h
  split at h
  · rename_i e0 he
    obtain ⟨⟨hx, hb, hml, hown, hts⟩, -, -, -, -, ⟨hmc, hms, hfr, hlo⟩, -⟩ := X
    unfold ax_mmf at he
    have hm := List.mem_of_find?_eq_some he
    have hp0 := List.find?_some he
    simp only [Bool.and_eq_true, beq_iff_eq] at hp0
    have h1 := List.all_eq_true.mp ax_mmchk_ok _ hm
    unfold ax_mmchk at h1
    rw [hp0.1, hp0.2] at h1
    unfold ax_mmo at h
    split at h
    · split at h
      · rename_i hl
        obtain ⟨rfl, hw, hc1, hc2⟩ := hl
        cases h
        intro cv cs ws tys ls H locs M hls hK hP hD hS
        obtain ⟨v1, cr, rfl, e1, e2⟩ := ax_popk M.2.2.1
        obtain ⟨v2, cr, rfl, e3, e4⟩ := ax_popk e2
        obtain ⟨y, rfl, e5⟩ := ax_ok_i e1.1
        obtain ⟨x, rfl, e6⟩ := ax_ok_i e3.1
        have hw2 : (cr.map fun v => v.category).sum + 13 ≤ R.locals := by rw [← ax_cat_sum e4]; omega
        have key := ax_mmx_ok (k := e0.2.2.1) e6 e5
        split at h1
        · rename_i hk
          simp only [Bool.and_eq_true, decide_eq_true_eq] at h1
          refine va_mmin hx hb (by rw [hml]; exact hls.1.symm) hown (hts _ (ax_in _ h1.1 h1.2)) (hts _ (ax_in _ ax_mmin_stat (by decide))) (hts _ (ax_in _ ax_m_init (by decide))) (hts _ (ax_in _ ax_mmin_code (by decide))) (by omega) hw2 (Nat.le_trans hc1 hmc) (Nat.le_trans hc2 hms) hd ?_
          exact hG _ (List.mem_singleton.mpr rfl) cv _ ws tys ls H locs ⟨M.1, M.2.1, ⟨⟨key.1 hk, trivial⟩, e4⟩, M.2.2.2⟩ hls hK hP hD hS
        · rename_i hk
          simp only [Bool.and_eq_true, decide_eq_true_eq] at h1
          refine va_mmax hx hb (by rw [hml]; exact hls.1.symm) hown (hts _ (ax_in _ h1.1 h1.2)) (hts _ (ax_in _ ax_mmax_stat (by decide))) (hts _ (ax_in _ ax_m_init (by decide))) (hts _ (ax_in _ ax_mmax_code (by decide))) (by omega) hw2 (Nat.le_trans hc1 hmc) (Nat.le_trans hc2 hms) hd ?_
          exact hG _ (List.mem_singleton.mpr rfl) cv _ ws tys ls H locs ⟨M.1, M.2.1, ⟨⟨key.2 hk, trivial⟩, e4⟩, M.2.2.2⟩ hls hK hP hD hS
        · cases h1
      · cases h
    · cases h
  · exact ax_invk_ok (kd := 0) X hcon hd (by decide) h hG
end AXD
