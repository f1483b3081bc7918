/-! ABSTRACT RUNS: calls -/
section AXC
def ax_Pc (D : va_G) (vs : List Value) (ws : va_W) (tys : List (ClassId × FieldType)) (sz : Nat) : Array Value → State → Prop := fun a U =>
  a = vs.toArray ∧ U.heap.size = sz ∧ va_P D vwCl ws U.heap ∧ va_K D vwCl tys U ∧ va_D (fun _ => True) ws ∧ (∀ w ∈ ax_nest, va_Nw w U) ∧ va_AO RX4 U
def ax_rv (γ : Nat → Int) (R : List Nat) (o : Option ax_V) (v : Option Value) : Prop := match o, v with
  | none, none => True
  | some a, some v => ax_ok γ R a v
  | _, _ => False
def ax_Qc (γ : Nat → Int) (b : Nat) (D : va_G) (outs : List ax_R) (vs : List Value) (ws : va_W) (sz : Nat) : Array Value → State → Outcome → State → Prop := fun _ st oc t =>
  (∃ o ∈ outs, ∃ (v : Option Value) (ws1 : va_W) (tys1 : List (ClassId × FieldType)), oc = .returned v ∧ ax_rv γ (ax_RR b ws1) o.1 v ∧ ax_all2 (ax_ok γ (ax_RR b ws1)) o.2.1 vs ∧ ax_hps γ (ax_RR b ws1) tys1 o.2.2 ws1 ∧ (∃ ext : List Nat, ws1.map (fun q => q.1) = ws.map (fun q => q.1) ++ ext) ∧
    va_P D vwCl ws1 t.heap ∧ va_K D vwCl tys1 t ∧ va_D (va_A ws sz) ws1) ∧ va_F (va_A ws sz) st t
/-- what is known of all methods that are run by 'call', with d frames -/
def ax_Con (l : Launch) (call : ax_F) (d : Nat) : Prop := ∀ (γ : Nat → Int) (b : Nat) (D : va_G) (mi : Nat) (t : ax_T) (as : List ax_V) (hp : List ax_C) (outs : List ax_R), ax_tab[mi]? = some t → call mi as hp = some outs →
  ∀ (vs : List Value) (ws : va_W) (tys : List (ClassId × FieldType)) (sz : Nat), ax_all2 (ax_ok γ (ax_RR b ws)) as vs → ax_hps γ (ax_RR b ws) tys hp ws →
  Met l t.1 (.code t.1 t.2.1 t.2.2.1 t.2.2.2.1 :: ax_W) { frames := d, cells := t.2.2.2.2.2.2.1, slots := t.2.2.2.2.2.2.2, locals := 40 * d } (ax_Pc D vs ws tys sz) (ax_Qc γ b D outs vs ws sz) t.2.2.2.2.2.2.1 t.2.2.2.2.2.2.2 (va_A ws sz)
theorem ax_nest_tab : ∀ w ∈ ax_nest, w.onTables = true := by decide +kernel
theorem ax_nest_warm {s U : State} (hW : s.WarmedH U.vm) (h : ∀ w ∈ ax_nest, va_Nw w s) : ∀ w ∈ ax_nest, va_Nw w U := by
  intro w hw
  have h1 := h w hw
  simp only [ax_nest, List.mem_cons, List.not_mem_nil, or_false] at hw
  rcases hw with rfl | rfl | rfl | rfl | rfl | rfl | rfl | rfl | rfl | rfl <;> exact va_Nw.warmM hW h1
theorem ax_blind {D : va_G} {vs : List Value} {ws : va_W} {tys : List (ClassId × FieldType)} {sz : Nat} : FrameBlind (ax_Pc D vs ws tys sz) := by
  intro a U g mk q
  obtain ⟨q0, q1, qP, qK, qD, qN, qA⟩ := q
  exact ⟨q0, q1, qP, va_K.moved (u := U) (U := U.calling g mk a) (Vm.Alike.refl U.vm) qK, qD, fun w hw => va_Nw.same (u := U) (U := U.calling g mk a) (ax_nest_tab w hw) rfl (qN w hw), va_AO.moved (u := U) (U := U.calling g mk a) (Vm.Alike.refl U.vm) qA⟩
theorem ax_all2_zip {α β δ : Type} {P : α → δ → Prop} {Q : β → δ → Prop} : ∀ {l : List α} {l2 : List β} {k : List δ}, ax_all2 P l k → ax_all2 Q l2 k → ax_all2 (fun z v => P z.1 v ∧ Q z.2 v) (l.zip l2) k
  | [], [], [], _, _ => trivial
  | a :: l, b :: l2, v :: k, h1, h2 => ⟨⟨h1.1, h2.1⟩, ax_all2_zip h1.2 h2.2⟩
  | [], _ :: _, [], _, h => h.elim
  | [], _, _ :: _, h, _ => h.elim
  | _ :: _, _, [], h, _ => h.elim
  | _ :: _, [], _ :: _, _, h => h.elim
theorem ax_back_ok {γ : Nat → Int} {b : Nat} {pv : List Value} {st : ax_K} {cv : List (Nat × Value)} {cs : List Value} {ws0 ws : va_W} {tys : List (ClassId × FieldType)} : ∀ {zs : List ((ax_V × ax_O) × ax_V)} {vs : List Value} {lv : ax_L} {hp : List ax_C} {pr : List ax_V},
    ax_all2 (fun z v => ax_org pv cv ws0 z.1.2 v ∧ ax_ok γ (ax_RR b ws) z.2 v) zs vs → ax_M γ b pv lv st hp pr cv cs ws tys →
    ax_M γ b pv (ax_back zs (lv, hp, pr)).1 st (ax_back zs (lv, hp, pr)).2.1 (ax_back zs (lv, hp, pr)).2.2 cv cs ws tys
  | [], _, _, _, _, _, M => M
  | ((a, o), .inl n) :: zs, [], _, _, _, h, _ => h.elim
  | ((a, o), .inl n) :: zs, v :: vs, lv, hp, pr, h, M => by
    obtain ⟨⟨h1, h2⟩, h3⟩ := h
    obtain ⟨x, rfl, h4⟩ := ax_ok_i h2
    unfold ax_back
    have h5 : ax_org pv cv ws (ax_nofo o) (.int x) := by
      rcases o with _ | i | ⟨q, k⟩ | j
      · trivial
      · exact h1
      · trivial
      · exact h1
    exact ax_back_ok (vs := vs) h3 (ax_ref_ok h5 h4.1 M)
  | ((a, o), .inr n) :: zs, [], _, _, _, h, _ => h.elim
  | ((a, o), .inr n) :: zs, v :: vs, lv, hp, pr, h, M => by
    unfold ax_back
    exact ax_back_ok (vs := vs) h.2 M
variable {p : Program} {l : Launch} {e : Env} {R : Room} {s : State} {m : MethodId} {args : Array Value} {below : List Frame} {meth : Method} {c : Code} {Q : State → Prop} {D : va_G} {A : Nat → Prop} {b : Nat} {γ : Nat → Int} {pv : List Value} {own : Nat} {ini : Bool} {nL L mc ms d : Nat} {cc : ByteArray} {xs : Nat → Int32} {call : ax_F}
theorem ax_after {mc' ms' pc : Nat} {lv : ax_L} {as rest : ax_K} {hp : List ax_C} {pr : List ax_V} {cn : Nat × Nat} {outs : List ax_R} {cv : List (Nat × Value)} {st0 cr vs : List Value} {ws : va_W} {tys : List (ClassId × FieldType)} {ls : Array Slot} {H : Heap} {locs : List Loc} {ar : Array Value} (hA : ∀ q, s.heap.size ≤ q → A q)
    (hr : va_Run p l e R s m args below meth c H locs cn.1 cn.2 mc' ms' (F0 m pc ls st0) cr (ax_Qc γ b D outs vs ws H.size ar) (va_A ws H.size))
    (M1 : ax_all2 (ax_ok γ (ax_RR b ws)) pr pv) (M2 : ax_lvs γ (ax_RR b ws) pv lv cv) (M3 : ax_all2 (ax_sok γ (ax_RR b ws) pv cv ws) rest cr) (M5 : ax_all2 (ax_sok γ (ax_RR b ws) pv cv ws) as vs)
    (hls : lv_has ls nL cv) (hD : va_D A ws) (hS : va_S A s.heap H locs)
    (hG : ∀ o ∈ outs, ax_G p l e R s m args below meth c Q D A b γ pv nL (ax_res (pc + 3) lv as rest pr (cn.1 + mc', cn.2 + ms') o)) : W p l e R s m args below meth c H locs cn.1 cn.2 Q (F0 m pc ls st0) := by
  intro T hT X
  obtain ⟨v, st₀, t, T', L, h0, X', hL, e1, e2, ⟨⟨o, ho, v', ws1, tys1, hv, q1, q2, q3, ⟨ext, q4⟩, q5, q6, q7⟩, hz, hk⟩, stp⟩ := hr T hT X
  cases hv
  rw [h0] at hz hk
  have hF : ∀ q, va_A ws H.size q → A q := by
    intro q hq
    rcases hq with ⟨k, e, hq⟩ | hq
    · exact hD.2 k _ hq
    · exact hA q (Nat.le_trans hS.1 hq)
  have hR : ∀ (k q : Nat), (ax_RR b ws)[k]? = some q → (ax_RR b ws1)[k]? = some q := by
    intro k q h
    have e3 : ax_RR b ws1 = ax_RR b ws ++ ext := by
      unfold ax_RR
      rw [q4]
      rfl
    rw [e3]
    have h1 : k < (ax_RR b ws).length := (List.getElem?_eq_some_iff.mp h).1
    rw [List.getElem?_append_left h1]
    exact h
  have N1 := ax_all2_mono (fun _ _ => ax_ok_more hR) M1
  have N2 : ax_lvs γ (ax_RR b ws1) pv lv cv := ax_all2_mono (fun q r h => ⟨h.1, ax_ok_more hR h.2.1, h.2.2⟩) M2
  have N3 : ax_all2 (ax_sok γ (ax_RR b ws1) pv cv ws1) (ax_nof rest) cr := ax_all2_mono (fun q v h => ⟨ax_ok_more hR h.1, h.2⟩) (ax_nof_ok (ws' := ws1) M3)
  have N5 : ax_all2 (fun z v => ax_org pv cv ws z.1.2 v ∧ ax_ok γ (ax_RR b ws1) z.2 v) (as.zip o.2.1) vs := ax_all2_mono (fun z v h => ⟨h.1.2, h.2⟩) (ax_all2_zip M5 q2)
  have Mst : ax_all2 (ax_sok γ (ax_RR b ws1) pv cv ws1) (match o.1 with | some v => (v, none) :: ax_nof rest | none => ax_nof rest) (v.toList ++ cr) := by
    rcases ho1 : o.1 with _ | a
    · rw [ho1] at q1
      cases v with
      | none => exact N3
      | some v => exact q1.elim
    · rw [ho1] at q1
      cases v with
      | none => exact q1.elim
      | some v => exact ⟨⟨q1, trivial⟩, N3⟩
  have M' := ax_back_ok (γ := γ) (b := b) (pv := pv) (tys := tys1) N5 (show ax_M γ b pv lv _ o.2.2 pr cv _ ws1 tys1 from ⟨N1, N2, Mst, q3⟩)
  have hS' : va_S A s.heap T'.heap (locs ++ L) := ⟨Nat.le_trans hS.1 (by rw [e1]; exact hz), fun q h1 h2 => by rw [e1, hk q (Nat.lt_of_lt_of_le h1 hS.1) (fun z => h2 (hF q z))]; exact hS.2.1 q h1 h2, fun q hq => by
      rcases List.mem_append.mp hq with h | h
      · exact hS.2.2 q h
      · exact hF _ (hL q h)⟩
  obtain ⟨t2, a1, b1⟩ := hG o ho cv (v.toList ++ cr) ws1 tys1 ls T'.heap (locs ++ L) M' hls (va_K.moved (show t.vm.Alike s.vm from by rw [← e2]; exact X'.warmed.alike.symm) q6) (by rw [e1]; exact q5) (q7.weaken (fun _ q _ h => hF q.1 h)) hS' T' rfl X'
  exact ⟨t2, stp t2 a1, b1⟩
theorem ax_cat_sum {γ : Nat → Int} {R : List Nat} {pv : List Value} {cv : List (Nat × Value)} {ws : va_W} : ∀ {st : ax_K} {cs : List Value}, ax_all2 (ax_sok γ R pv cv ws) st cs → ax_words st = (cs.map fun v => v.category).sum
  | [], [], _ => rfl
  | q :: st, v :: cs, h => by
    have h1 := ax_cat_sum h.2
    unfold ax_words at h1 ⊢
    simp only [List.map_cons, List.sum_cons]
    rw [h1, ax_ok_cat h.1.1]
  | [], _ :: _, h => h.elim
  | _ :: _, [], h => h.elim
theorem ax_pre {vs : List Value} {ws : va_W} {tys : List (ClassId × FieldType)} {H : Heap} (hn : ∀ w ∈ ax_nest, va_Nw w s) (hao : va_AO RX4 s) (hK : va_K D vwCl tys s) (hP : va_P D vwCl ws H) (hD : va_D A ws) : PreS s H (ax_Pc D vs ws tys H.size) vs :=
  ⟨ax_blind, fun U hU hW => ⟨rfl, by rw [hU], by rw [hU]; exact hP, va_K.moved hW.alike hK, hD.weaken (fun _ _ _ _ => trivial), ax_nest_warm hW hn, va_AO.moved hW.alike hao⟩⟩
/-- a row of the method table, checked -/
def ax_tchk (q : ax_T × (Nat × (Nat × Nat))) : Bool :=
  (decide (lw_tbl[q.2.1]? = some (.initialized q.1.1.cls)) && goodWord (.initialized q.1.1.cls)) &&
  ((match q.1.2.2.2.2.1.2 with
    | 0 => decide (lw_tbl[q.2.2.1]? = some (.static q.1.1)) && goodWord (.static q.1.1)
    | 1 => (decide (lw_tbl[q.2.2.1]? = some (.instanceMethod q.1.1)) && goodWord (.instanceMethod q.1.1)) && (decide (lw_tbl[q.2.2.2]? = some (.selects q.1.1.cls q.1.1 q.1.1)) && goodWord (.selects q.1.1.cls q.1.1 q.1.1))
    | _ => (decide (lw_tbl[q.2.2.1]? = some (.instanceMethod q.1.1)) && goodWord (.instanceMethod q.1.1)) && (decide (q.1.1.name = "<init>") && decide (q.1.2.2.2.1 = none))) &&
  ((decide (q.1.1.cls ≠ "java/lang/invoke/MethodHandle") && decide (q.1.1.cls ≠ "java/lang/invoke/VarHandle")) &&
  (decide ((parseMethodDescriptor q.1.1.desc).map (fun d => d.parameters.length) = some q.1.2.2.2.2.2.1) &&
  (decide (q.1.1.cls = ax_nm q.1.2.2.2.2.1.1) && (plainName q.1.1.cls && goodWord (ax_tcode q.1))))))
set_option maxRecDepth 100000 in
theorem ax_tchk_ok : (ax_tab.zip ax_tpos).all ax_tchk = true := by decide +kernel
set_option maxRecDepth 100000 in
theorem ax_tlen : ax_tpos.length = ax_tab.length := by decide +kernel
def ax_tfact (t : ax_T) : Prop := (Cond.initialized t.1.cls ∈ ax_W) ∧ (t.2.2.2.2.1.2 = 0 → Cond.static t.1 ∈ ax_W) ∧ (t.2.2.2.2.1.2 = 1 → Cond.instanceMethod t.1 ∈ ax_W ∧ Cond.selects t.1.cls t.1 t.1 ∈ ax_W) ∧ (t.2.2.2.2.1.2 = 2 → Cond.instanceMethod t.1 ∈ ax_W ∧ t.1.name = "<init>" ∧ t.2.2.2.1 = none) ∧
  (t.1.cls ≠ "java/lang/invoke/MethodHandle" ∧ t.1.cls ≠ "java/lang/invoke/VarHandle" ∧ (parseMethodDescriptor t.1.desc).map (fun d => d.parameters.length) = some t.2.2.2.2.2.1) ∧ t.1.cls = ax_nm t.2.2.2.2.1.1 ∧ plainName t.1.cls = true ∧ ax_tcode t ∈ ax_W
theorem ax_tab_ok {mi : Nat} {t : ax_T} (h : ax_tab[mi]? = some t) : ax_tfact t := by
  have h1 : mi < ax_tab.length := (List.getElem?_eq_some_iff.mp h).1
  obtain ⟨q, hq⟩ : ∃ q, ax_tpos[mi]? = some q := ⟨_, List.getElem?_eq_getElem (by rw [ax_tlen]; exact h1)⟩
  have h2 : (ax_tab.zip ax_tpos)[mi]? = some (t, q) := by
    rw [List.getElem?_zip_eq_some]
    exact ⟨h, hq⟩
  have h3 := List.all_eq_true.mp ax_tchk_ok _ (List.mem_of_getElem? h2)
  unfold ax_tchk at h3
  simp only [Bool.and_eq_true, decide_eq_true_eq] at h3
  obtain ⟨a1, a2, a3, a4, a5, a6, a7⟩ := h3
  have hc : ax_tcode t ∈ lw_tbl := by
    have h4 : ax_tcode t ∈ ax_tab.map ax_tcode := List.mem_map.mpr ⟨t, List.mem_of_getElem? h, rfl⟩
    rw [ax_codes] at h4
    obtain ⟨i, -, hi⟩ := List.mem_filterMap.mp h4
    exact List.mem_of_getElem? hi
  refine ⟨ax_in _ a1.1 a1.2, fun hk => ?_, fun hk => ?_, fun hk => ?_, ⟨a3.1, a3.2, a4⟩, a5, a6, List.mem_filter.mpr ⟨hc, a7⟩⟩
  · rw [hk] at a2
    simp only [Bool.and_eq_true, decide_eq_true_eq] at a2
    exact ax_in _ a2.1 a2.2
  · rw [hk] at a2
    simp only [Bool.and_eq_true, decide_eq_true_eq] at a2
    exact ⟨ax_in _ a2.1.1 a2.1.2, ax_in _ a2.2.1 a2.2.2⟩
  · rw [hk] at a2
    simp only [Bool.and_eq_true, decide_eq_true_eq] at a2
    exact ⟨ax_in _ a2.1.1 a2.1.2, a2.2⟩
theorem ax_goodIn {Ts : List Cond} {t : ax_T} (ht : ax_tfact t) (hT : Ts = ax_W) : GoodIn Ts (.code t.1 t.2.1 t.2.2.1 t.2.2.2.1 :: ax_W) := by
  subst hT
  intro w hw
  have h1 : w ∈ ax_W := by
    rcases List.mem_cons.mp hw with rfl | h
    · exact ht.2.2.2.2.2.2.2
    · exact h
  exact ⟨h1, good_of_word (List.mem_filter.mp h1).2⟩
def ax_mchk (o : Nat) : Bool := (ax_ml o).all (fun e => match ax_tab[e.2.1]? with
  | some t => decide (lw_tbl[e.2.2]? = some (.methodLink (ax_nm o) e.1 t.1)) && goodWord (.methodLink (ax_nm o) e.1 t.1)
  | none => false)
set_option maxRecDepth 100000 in
theorem ax_mchk_ok : (List.range 14).all ax_mchk = true := by decide +kernel
theorem ax_lnk_ok {o i mi q : Nat} {t : ax_T} (h : ax_lnk o i = some (mi, q)) (ht : ax_tab[mi]? = some t) : Cond.methodLink (ax_nm o) i t.1 ∈ ax_W := by
  have hm := ax_get_mem h
  have ho : o < 14 := by
    rcases Nat.lt_or_ge o 14 with h1 | h1
    · exact h1
    · obtain ⟨n, rfl⟩ : ∃ n, o = n + 14 := ⟨o - 14, by omega⟩
      cases hm
  have h1 := List.all_eq_true.mp (List.all_eq_true.mp ax_mchk_ok o (List.mem_range.mpr ho)) _ hm
  dsimp only at h1
  rw [ht] at h1
  simp only [Bool.and_eq_true, decide_eq_true_eq] at h1
  exact ax_in q h1.1 h1.2
def ax_nchk (e : Nat × (Nat × Nat)) : Bool := match ax_tab[e.2.2]? with
  | some t => decide (Cond.methodLinkNest (ax_nm e.1) e.2.1 t.1 "SymmetryHouse" ∈ ax_nest)
  | none => false
set_option maxRecDepth 100000 in
theorem ax_nchk_ok : ax_nl.all ax_nchk = true := by decide +kernel
theorem ax_nlk_ok {o i o2 i2 mi : Nat} {t : ax_T} (h : ax_nlk o i = some (o2, i2, mi)) (ht : ax_tab[mi]? = some t) : Cond.methodLinkNest (ax_nm o) i t.1 "SymmetryHouse" ∈ ax_nest := by
  unfold ax_nlk at h
  have hm := List.mem_of_find?_eq_some h
  have hp := List.find?_some h
  simp only [Bool.and_eq_true, beq_iff_eq] at hp
  obtain ⟨rfl, rfl⟩ := hp
  have h1 := List.all_eq_true.mp ax_nchk_ok _ hm
  unfold ax_nchk at h1
  dsimp only at h1
  rw [ht] at h1
  simpa using h1
end AXC
