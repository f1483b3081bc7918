/-! ABSTRACT RUNS: what a method's abstract run says, its contract says -/
section AXH
theorem ax_mapO_ok {α β : Type} {f : α → Option β} : ∀ {l : List α} {k : List β}, ax_mapO f l = some k → ∀ a ∈ l, ∃ o ∈ k, f a = some o
  | [], _, _, a, ha => by cases ha
  | x :: l, k, h, a, ha => by
    unfold ax_mapO at h
    split at h
    · rename_i y r h1 h2
      cases h
      rcases List.mem_cons.mp ha with rfl | ha
      · exact ⟨y, List.mem_cons_self, h1⟩
      · obtain ⟨o, h3, h4⟩ := ax_mapO_ok h2 a ha
        exact ⟨o, List.mem_cons_of_mem _ h3, h4⟩
    · cases h
theorem ax_slots_ok {γ : Nat → Int} {R : List Nat} : ∀ {as : List ax_V} {vs : List Value}, ax_all2 (ax_ok γ R) as vs → (lg_sl vs).length = ax_slots as
  | [], [], _ => rfl
  | a :: as, v :: vs, h => by
    have h1 := ax_slots_ok h.2
    have h2 := ax_ok_cat h.1
    unfold ax_slots at h1 ⊢
    unfold lg_sl at h1 ⊢
    rw [List.flatMap_cons, List.length_append, h1, List.map_cons, List.sum_cons, h2]
    rcases lv_cat v with h3 | h3 <;> simp [h3]
  | [], _ :: _, h => h.elim
  | _ :: _, [], h => h.elim
theorem ax_ent_ok {γ : Nat → Int} {R : List Nat} : ∀ {as : List ax_V} {vs post : List Value} (pre : List Value) (i : Nat), ax_all2 (ax_ok γ R) as vs → ax_lvs γ R (pre ++ (vs ++ post)) (ax_ent i pre.length as) (lv_args i vs)
  | [], [], _, _, _, _ => trivial
  | a :: as, v :: vs, post, pre, i, h => by
    have h2 := ax_ok_cat h.1
    have h3 := ax_ent_ok (post := post) (pre ++ [v]) (if v.category = 2 then i + 2 else i + 1) h.2
    rw [List.append_assoc, List.length_append] at h3
    unfold ax_ent lv_args
    rw [h2]
    refine ⟨⟨rfl, h.1, fun j hj => ?_⟩, h3⟩
    cases hj
    simp
  | [], _ :: _, _, _, _, h => h.elim
  | _ :: _, [], _, _, _, h => h.elim
theorem ax_pref {α : Type} : ∀ {l l1 : List α}, (∀ (k : Nat) (q : α), l[k]? = some q → l1[k]? = some q) → ∃ ext, l1 = l ++ ext
  | [], l1, _ => ⟨l1, rfl⟩
  | a :: l, [], h => by
    have := h 0 a rfl
    cases this
  | a :: l, b :: l1, h => by
    have h0 := h 0 a rfl
    cases h0
    obtain ⟨ext, e⟩ := ax_pref (l := l) (l1 := l1) (fun k q hk => by simpa using h (k + 1) q (by simpa using hk))
    exact ⟨ext, by rw [e]; rfl⟩
theorem ax_pl_get {n k : Nat} (h : k < n) : (ax_pl n)[k]? = some (.inr (.inr (some (k + 1)))) := by
  unfold ax_pl
  rw [List.getElem?_map, List.getElem?_range h]
  rfl
theorem ax_pl_ok {γ : Nat → Int} {b : Nat} : ∀ (ws : va_W), ax_all2 (ax_ok γ (ax_RR b ws)) (ax_pl ws.length) (ws.map (fun q => Value.ref q.1)) := by
  intro ws
  have key : ∀ (n : Nat) (l : va_W) (off : Nat), l.length = n → (∀ (k : Nat) (q : Nat × va_E), l[k]? = some q → ws[off + k]? = some q) → ax_all2 (ax_ok γ (ax_RR b ws)) ((List.range' off n).map (fun k => (.inr (.inr (some (k + 1))) : ax_V))) (l.map (fun q => Value.ref q.1)) := by
    intro n
    induction n with
    | zero => intro l off h1 h2; cases l with
      | nil => trivial
      | cons a l => cases h1
    | succ n ih => intro l off h1 h2; cases l with
      | nil => cases h1
      | cons a l =>
        refine ⟨?_, ih l (off + 1) (by simpa using h1) (fun k q hk => by have := h2 (k + 1) q (by simpa using hk); rw [show off + 1 + k = off + (k + 1) by omega]; exact this)⟩
        show (ax_RR b ws)[off + 1]? = some a.1
        have h3 := h2 0 a rfl
        unfold ax_RR
        rw [List.getElem?_cons_succ, List.getElem?_map, show off = off + 0 by omega, h3]
        rfl
  have h := key ws.length ws 0 rfl (fun k q hk => by rw [Nat.zero_add]; exact hk)
  unfold ax_pl
  rw [List.range_eq_range']
  exact h
/-- the cells that were there keep their places -/
theorem ax_ext {γ : Nat → Int} {b : Nat} {ws ws1 : va_W} (h : ax_all2 (ax_ok γ (ax_RR b ws1)) (ax_pl ws.length) (ws.map (fun q => Value.ref q.1))) : ∃ ext : List Nat, ws1.map (fun q => q.1) = ws.map (fun q => q.1) ++ ext := by
  refine ax_pref (fun k q hk => ?_)
  have h1 : k < ws.length := by
    have := (List.getElem?_eq_some_iff.mp hk).1
    simpa using this
  obtain ⟨v, h2, h3⟩ := ax_all2_get h (ax_pl_get h1)
  rw [List.getElem?_map] at hk h2
  obtain ⟨w, h4, h5⟩ := Option.map_eq_some_iff.mp hk
  rw [h4] at h2
  cases h2
  subst h5
  have h6 : (ax_RR b ws1)[k + 1]? = some w.1 := h3
  unfold ax_RR at h6
  rwa [List.getElem?_cons_succ] at h6
theorem ax_mg_ok {mi : Nat} {as : List ax_V} {outs : List ax_R} {o : ax_R} (h : o ∈ outs) : ∃ o2 ∈ ax_mg mi as outs, o2.1 = o.1 ∧ o2.2.2 = o.2.2 ∧ (o2.2.1 = o.2.1 ∨ o2.2.1 = as) := by
  unfold ax_mg
  split
  · split
    · rename_i o1 r
      split
      · rename_i hr
        refine ⟨(o1.1, as, o1.2.2), List.mem_singleton.mpr rfl, ?_⟩
        rcases List.mem_cons.mp h with rfl | h
        · exact ⟨rfl, rfl, Or.inr rfl⟩
        · have h1 := List.all_eq_true.mp hr o h
          unfold ax_sameR at h1
          simp only [Bool.and_eq_true, decide_eq_true_eq] at h1
          have e1 : o1.1 = o.1 := by
            have e := h1.1
            rcases o1 with ⟨_ | a, x⟩ <;> rcases o with ⟨_ | b, y⟩
            · rfl
            · cases e
            · cases e
            · simp at e; subst e; rfl
          exact ⟨e1, h1.2, Or.inr rfl⟩
      · exact ⟨o, h, rfl, rfl, Or.inl rfl⟩
    · cases h
  · exact ⟨o, h, rfl, rfl, Or.inl rfl⟩
theorem ax_con (l : Launch) : ∀ d, ax_Con l (ax_meth d) d
  | 0 => by
    intro γ b D mi t as hp outs ht h
    cases h
  | d + 1 => by
    intro γ b D mi t as hp outs ht h vs ws tys sz hvs hhp
    unfold ax_meth at h
    rw [ht] at h
    dsimp only at h
    split at h
    · rename_i hsl
      split at h
      · rename_i ends hrun
        split at h
        case h_2 => cases h
        rename_i outs0 hmap
        cases h
        obtain ⟨f1, f2, f3, f4, f5, f6, f7, f8⟩ := ax_tab_ok ht
        have hlen : hp.length = ws.length := ax_all2_len hhp
        have hlen2 : as.length = vs.length := ax_all2_len hvs
        refine Met.ofW (cc := t.2.1) (maxL := t.2.2.1) (ret := t.2.2.2.1) f7 rfl ?_
        intro p e s m args below meth c s₁ B hml hv
        obtain ⟨rfl, hsz, hP, hK, hD0, hN, hAO⟩ := hv
        have hx := B.exec
        have hb := B.bytes
        have hr := B.returns
        have hts0 := atoms_spec (ws := .code t.1 t.2.1 t.2.2.1 t.2.2.2.1 :: ax_W) B.pre
        have hown : s.vm.findClass (ax_nm t.2.2.2.2.1.1) = some m.cls := by
          rw [← f6]
          exact findClass_of_methodNamed B.named
        have hlocks := B.notSynchronized
        have hnm : meth.name = t.1.name := (name_of_methodNamed B.named B.method).1
        subst hsz
        have hD := hD0.self (sz := s.heap.size)
        have hA : ∀ q : Nat, s.heap.size ≤ q → va_A ws s.heap.size q := fun q h => Or.inr h
        have hS : va_S (va_A ws s.heap.size) s.heap s.heap [] := va_S.rf
        have hl := lv_entry vs (n := t.2.2.1) (by rw [ax_slots_ok hvs]; exact hsl)
        rw [lg_entry_eq]
        have X : ax_X p (headSpec (.code t.1 t.2.1 t.2.2.1 t.2.2.2.1 :: ax_W) { frames := d + 1, cells := t.2.2.2.2.2.2.1, slots := t.2.2.2.2.2.2.2, locals := 40 * (d + 1) }).room s m vs.toArray meth c (va_A ws s.heap.size) b γ (vs ++ (ws.map (fun q => Value.ref q.1) ++ [])) t.2.2.2.2.1.1 (decide (t.2.2.2.2.1.2 = 2)) t.2.2.1 0 t.2.2.2.2.2.2.1 t.2.2.2.2.2.2.2 d t.2.1 (fun _ => 0) :=
          ⟨⟨hx, hb, hml, hown, fun w hw => hts0 w (List.mem_cons_of_mem _ hw)⟩, fun hi => by rw [hnm]; exact (f4 (by simpa using hi)).2.1, hN, hAO, hA, ⟨Nat.le_refl _, Nat.le_refl _, Nat.le_refl _, by show 40 * d + 40 ≤ 40 * (d + 1); omega⟩, fun h => absurd h (by omega)⟩
        have key := (ax_run_ok (e := e) (below := below) (D := D) (Q := MQ below (ax_Qc γ b D (ax_mg mi as outs0) vs ws s.heap.size) vs.toArray s t.2.2.2.2.2.2.1 t.2.2.2.2.2.2.2 (va_A ws s.heap.size)) X (ax_con l d) _ _ _ _ hrun ?_).1 _ List.mem_cons_self
        · refine key (lv_args 0 vs) [] ws tys _ s.heap [] ⟨?_, ?_, trivial, hhp⟩ hl hK hP hD hS
          · rw [List.append_nil, hlen]
            exact ax_all2_app hvs (ax_pl_ok ws)
          · exact ax_ent_ok (post := ws.map (fun q => Value.ref q.1) ++ []) [] 0 hvs
        · intro S hSm
          obtain ⟨o, ho0, hout⟩ := ax_mapO_ok hmap S hSm
          obtain ⟨o2, ho, g1, g2, g3⟩ := ax_mg_ok (mi := mi) (as := as) ho0
          obtain ⟨pc, lv, st, hq, pr, cn⟩ := S
          unfold ax_out at hout
          split at hout
          · rename_i hc
            obtain ⟨hc1, hc2, hc3⟩ := hc
            intro cv cs ws1 tys1 ls H locs M hls hK1 hP1 hD1 hS1
            refine W.widen hc1 hc2 ?_
            have M1 : ax_all2 (ax_ok γ (ax_RR b ws1)) pr (vs ++ (ws.map (fun q => Value.ref q.1) ++ [])) := M.1
            have m1 := ax_all2_take as.length M1
            have m2 := ax_all2_drop as.length M1
            dsimp only at hc3
            rw [hlen2, List.take_left'  rfl] at m1
            rw [hc3, hlen, hlen2, List.drop_left' rfl, List.append_nil] at m2
            have hext := ax_ext m2
            rw [← hlen2] at m1
            have fin : ∀ (v : Option Value) (tt : State), tt.heap = H → s.WarmedH tt.vm → ax_rv γ (ax_RR b ws1) o.1 v → o.2 = (pr.take as.length, hq) → ax_Qc γ b D (ax_mg mi as outs0) vs ws s.heap.size vs.toArray s (.returned v) tt := by
              intro v tt htt hW hrv ho2
              refine ⟨⟨o2, ho, v, ws1, tys1, rfl, by rw [g1]; exact hrv, ?_, ?_, hext, by rw [htt]; exact hP1, va_K.moved hW.alike hK1, hD1⟩, hS1.F htt⟩
              · rcases g3 with g3 | g3
                · rw [g3, ho2]; exact m1
                · rw [g3]
                  obtain ⟨ext, hx9⟩ := hext
                  refine ax_all2_mono (fun _ _ => ax_ok_more (fun k q hk => ?_)) hvs
                  have e3 : ax_RR b ws1 = ax_RR b ws ++ ext := by
                    unfold ax_RR
                    rw [hx9]
                    rfl
                  rw [e3, List.getElem?_append_left (List.getElem?_eq_some_iff.mp hk).1]
                  exact hk
              · rw [g2, ho2]; exact M.2.2.2
            have M3 := M.2.2.1
            dsimp only at hout M3 ⊢
            split at hout
            · rename_i hd hret
              cases hout
              cases cs with
              | cons => exact M3.elim
              | nil =>
              exact W.vret hx hb (by rw [hr]; exact hret) (fun tt h1 h2 => fin none tt h1 h2 trivial rfl) hS1.2.2 hd
            · rename_i hd hret
              cases hout
              obtain ⟨v1, cr, rfl, e1, e2⟩ := ax_popk M3
              obtain ⟨x, rfl, e3⟩ := ax_ok_i e1.1
              cases cr with
              | cons => exact e2.elim
              | nil =>
              exact W.zret (ty := .int) hx hb (by rw [hr]; exact hret) rfl (fun tt h1 h2 => fin _ tt h1 h2 e3 rfl) hS1.2.2 hd
            · rename_i hd hret
              split at hout
              · rename_i hbd
                cases hout
                obtain ⟨v1, cr, rfl, e1, e2⟩ := ax_popk M3
                obtain ⟨x, rfl, e3⟩ := ax_ok_i e1.1
                cases cr with
                | cons => exact e2.elim
                | nil =>
                have e4 := (ax_fits_ok (γ := γ) (R := ax_RR b ws1) (ty := .boolean) (a := .inl _) (v := .int x) (by unfold ax_fits; simp only [Bool.and_eq_true, decide_eq_true_eq]; exact hbd) e3).1
                exact W.zret (ty := .boolean) hx hb (by rw [hr]; exact hret) e4 (fun tt h1 h2 => fin _ tt h1 h2 e3 rfl) hS1.2.2 hd
              · cases hout
            · rename_i hd hret
              cases hout
              obtain ⟨v1, cr, rfl, e1, e2⟩ := ax_popk M3
              obtain ⟨x, rfl, e3⟩ := ax_ok_l e1.1
              cases cr with
              | cons => exact e2.elim
              | nil =>
              exact W.lret hx hb (by rw [hr]; exact hret) (fun tt h1 h2 => fin _ tt h1 h2 e3 rfl) hS1.2.2 hd
            · rename_i cn0 ra oo hd hret
              cases hout
              obtain ⟨v1, cr, rfl, e1, e2⟩ := ax_popk M3
              have e3 : v1 = .null ∨ ∃ a, v1 = .ref a := by
                rcases ra with _ | ra
                · exact Or.inl (ax_ok_n e1.1)
                · obtain ⟨q, hq, -⟩ := ax_ok_r e1.1
                  exact Or.inr ⟨q, hq⟩
              cases cr with
              | cons => exact e2.elim
              | nil =>
              exact W.aret hx hb (by rw [hr]; exact hret) (Or.inl ⟨_, rfl⟩) e3 (fun tt h1 h2 => fin _ tt h1 h2 e1.1 rfl) hS1.2.2 hd
            · cases hout
          · cases hout
      · cases h
    · cases h
end AXH
