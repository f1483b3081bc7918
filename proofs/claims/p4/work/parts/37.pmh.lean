/-! THE PURE MACHINE: what a method's pure run says, its contract says -/
section PMH
variable {p : Program} {l : Launch} {e : Env} {R : Room} {s : State} {m : MethodId} {args : Array Value} {below : List Frame} {meth : Method} {c : Code} {Q : State → Prop} {D : va_G} {A : Nat → Prop} {b own nL L1 L d : Nat} {cc : ByteArray} {xs : Nat → Int32} {sa wa : List Nat} {cn : Nat × Nat} {call : pm_Call} {Qr : pm_Q} {len pc : Nat} {lv : pm_L} {st : List pm_V} {σ : pm_H} {o : pm_N}
/-- a run: from every state at which the least predicate holds, the machine comes to Q -/
theorem pm_T_ok (X : pm_X p R s m args c A b own nL L1 L d cc xs sa cn) (hcon : pm_Con l call d) {ret : Option FieldType} {ex : Nat → Bool} {E : pm_S → Prop} (hE : ∀ S, ex S.1 = true → E S → pm_G p l e R s m args below meth c Q D A b nL L xs sa wa cn S)
    (hR : ∀ (pc : Nat) (lv : pm_L) (st : List pm_V) (σ : pm_H) (i : Instr) (k len : Nat) (o : pm_N), (i = .return_ ∧ k = 0 ∨ i = .ireturn ∧ k = 1 ∨ i = .lreturn ∧ k = 2 ∨ i = .areturn ∧ k = 3) → decode cc pc = .ok (i, len) → pm_ret ret k len st = some o → pm_NG call Qr σ (pm_G p l e R s m args below meth c Q D A b nL L xs sa wa cn) o → pm_G p l e R s m args below meth c Q D A b nL L xs sa wa cn (pc, lv, st, σ))
    {S : pm_S} (h : pm_T ex E own nL L1 cc ret call Qr S) : pm_G p l e R s m args below meth c Q D A b nL L xs sa wa cn S := by
  refine h _ (fun S hF => ?_)
  unfold pm_F at hF
  split at hF
  · rename_i hx
    exact hE S hx hF
  · split at hF
    · rename_i i len hd
      split at hF
      · rename_i o ho
        exact pm_op_ok X hcon hd (fun k hk hr => hR _ _ _ _ i k len o hk hd hr hF) ho hF
      · exact hF.elim
    · exact hF.elim
theorem pm_slots_ok {R : List Nat} : ∀ {as : List pm_V} {vs : List Value}, ax_all2 (pm_ok R) as vs → (lg_sl vs).length = pm_words as
  | [], [], _ => rfl
  | a :: as, v :: vs, h => by
    have h1 := pm_slots_ok h.2
    have h2 := pm_ok_cat h.1
    unfold pm_words at h1 ⊢
    unfold lg_sl at h1 ⊢
    rw [List.flatMap_cons, List.length_append, h1, List.map_cons, List.sum_cons, h2]
    rcases lv_cat v with h3 | h3 <;> simp [h3]
  | [], _ :: _, h => h.elim
  | _ :: _, [], h => h.elim
theorem pm_ent_ok {R : List Nat} : ∀ {as : List pm_V} {vs : List Value} (n i : Nat), ax_all2 (pm_ok R) as vs → ∀ (j : Nat) (a : pm_V), (pm_ent n as)[j]? = some (some a) → ∃ v, (i + j, v) ∈ lv_args i vs ∧ pm_ok R a v
  | [], [], n, i, _, j, a, hj => by
    unfold pm_ent at hj
    rw [List.getElem?_replicate] at hj
    split at hj
    · simp at hj
    · cases hj
  | x :: as, v :: vs, n, i, h, j, a, hj => by
    have h2 := pm_ok_cat h.1
    unfold pm_ent at hj
    unfold lv_args
    split at hj
    · rename_i hc
      rw [if_pos (by rw [← h2]; exact hc)]
      match j, hj with
      | 0, hj =>
        cases hj
        exact ⟨v, List.mem_cons_self, h.1⟩
      | 1, hj => simp at hj
      | j + 2, hj =>
        obtain ⟨w, h3, h4⟩ := pm_ent_ok (n - 2) (i + 2) h.2 j a (by simpa using hj)
        exact ⟨w, List.mem_cons_of_mem _ (by rw [show i + (j + 2) = i + 2 + j by omega]; exact h3), h4⟩
    · rename_i hc
      rw [if_neg (by rw [← h2]; exact hc)]
      match j, hj with
      | 0, hj =>
        cases hj
        exact ⟨v, List.mem_cons_self, h.1⟩
      | j + 1, hj =>
        obtain ⟨w, h3, h4⟩ := pm_ent_ok (n - 1) (i + 1) h.2 j a (by simpa using hj)
        exact ⟨w, List.mem_cons_of_mem _ (by rw [show i + (j + 1) = i + 1 + j by omega]; exact h3), h4⟩
  | [], _ :: _, _, _, h, _, _, _ => h.elim
  | _ :: _, [], _, _, h, _, _, _ => h.elim
theorem pm_con (l : Launch) : ∀ n, pm_Con l (pm_TerF n) n
  | 0 => by
    intro b sa L xs D mi t as σ Q ht h
    exact h.elim
  | n + 1 => by
    intro b sa L xs D mi t as σ Q0 ht h hmc hms vs ws tys sz hvs hhp
    unfold pm_TerF at h
    rw [ht] at h
    dsimp only at h
    obtain ⟨hsl, hT⟩ := h
    obtain ⟨f1, f2, f3, f4, f5, f6, f7, f8⟩ := ax_tab_ok ht
    refine Met.ofW (cc := t.2.1) (maxL := t.2.2.1) (ret := t.2.2.2.1) f7 rfl ?_
    intro p e s m args below meth c s₁ B hml hv
    obtain ⟨rfl, hsz, hP, hK, hD0, hN, hAO, hFN, hSt⟩ := hv
    have hx := B.exec
    have hb := B.bytes
    have hr := B.returns
    have hts0 := atoms_spec (ws := .code t.1 t.2.1 t.2.2.1 t.2.2.2.1 :: ax_W) B.pre
    have hown : s.vm.findClass (ax_nm t.2.2.2.2.1.1) = some m.cls := by
      rw [← f6]
      exact findClass_of_methodNamed B.named
    subst hsz
    have hD := hD0.self (sz := s.heap.size)
    have hA : ∀ q : Nat, s.heap.size ≤ q → va_A ws s.heap.size q := fun q h => Or.inr h
    have hS : va_S (va_A ws s.heap.size) s.heap s.heap [] := va_S.rf
    have hl := lv_entry vs (n := t.2.2.1) (by rw [pm_slots_ok hvs]; exact hsl)
    rw [lg_entry_eq]
    have X : pm_X p (headSpec (.code t.1 t.2.1 t.2.2.1 t.2.2.2.1 :: ax_W) { frames := n + 1, cells := 0, slots := 0, locals := 40 * (n + 1) }).room s m vs.toArray c (va_A ws s.heap.size) b t.2.2.2.2.1.1 t.2.2.1 0 L n t.2.1 xs sa (0, 0) :=
      ⟨⟨hx, hb, hml, hown, fun w hw => hts0 w (List.mem_cons_of_mem _ hw)⟩, hN, hFN, hAO, hA, ⟨Nat.le_refl _, Nat.le_refl _, Nat.le_refl _, by show 40 * n + 40 ≤ 40 * (n + 1); omega⟩, hSt, fun h => absurd h (by omega)⟩
    have hcon : pm_Con l (fun mi' as' σ' Q' => pm_dpf mi' < pm_dpf mi ∧ pm_TerF n mi' as' σ' Q') n := fun b sa L xs D mi' t' as' σ' Q' h1 h2 => pm_con l n b sa L xs D mi' t' as' σ' Q' h1 h2.2
    have key := pm_T_ok (wa := ws.map (fun q => q.1)) (e := e) (below := below) (D := D) (meth := meth) (Q := MQ below (pm_Qc b sa L xs D Q0 t.2.2.2.1 ws s.heap.size) vs.toArray s 0 0 (va_A ws s.heap.size)) X hcon (fun S h => by cases h) ?_ hT
    · refine key (lv_args 0 vs) [] ws tys _ s.heap [] ⟨fun j a hj => ?_, trivial, hhp⟩ hl hK hP hD hS
      obtain ⟨v, h1, h2⟩ := pm_ent_ok _ 0 hvs j a hj
      rw [Nat.zero_add] at h1
      exact ⟨v, h1, h2⟩
    · intro pc lv st τ i k len o hk hd hret hG
      intro cv cs ws1 tys1 ls H locs M hls hK1 hP1 hD1 hS1
      have fin : ∀ (r : Int) (v : Option Value) (tt : State), tt.heap = H → s.WarmedH tt.vm → Q0 r τ → ax_all2 (pm_ok (pm_RR b ws1 sa)) (pm_rs t.2.2.2.1 r) v.toList → pm_Qc b sa L xs D Q0 t.2.2.2.1 ws s.heap.size vs.toArray s (.returned v) tt := by
        intro r v tt htt hW hq hrv
        exact ⟨⟨r, τ, v, ws1, tys1, rfl, hq, hrv, M.2.2, by rw [htt]; exact hP1, va_K.moved hW.alike hK1, hD1⟩, hS1.F htt⟩
      have M3 := M.2.1
      unfold pm_ret at hret
      split at hret
      · rename_i hl
        subst hl
        split at hret
        · rename_i hr0
          cases hret
          obtain rfl : i = .return_ := by
            rcases hk with h | h | h | h
            · exact h.1
            all_goals exact absurd h.2 (by decide)
          cases cs with
          | cons => exact M3.elim
          | nil =>
          refine W.vret hx hb (by rw [hr]; exact hr0) (fun tt h1 h2 => fin 0 none tt h1 h2 hG.2 ?_) hS1.2.2 hd
          rw [hr0]
          exact trivial
        · rename_i a hr0
          cases hret
          obtain rfl : i = .ireturn := by
            rcases hk with h | h | h | h
            · exact absurd h.2 (by decide)
            · exact h.1
            all_goals exact absurd h.2 (by decide)
          obtain ⟨v1, cr, rfl, e1, e2⟩ := ax_popk M3
          obtain ⟨x, rfl, e3⟩ := pm_ok_i e1
          cases cr with
          | cons => exact e2.elim
          | nil =>
          refine W.zret (ty := .int) hx hb (by rw [hr]; exact hr0) rfl (fun tt h1 h2 => fin _ _ tt h1 h2 hG.2 ?_) hS1.2.2 hd
          rw [hr0]
          exact ⟨e3, trivial⟩
        · rename_i a hr0
          cases hret
          obtain rfl : i = .ireturn := by
            rcases hk with h | h | h | h
            · exact absurd h.2 (by decide)
            · exact h.1
            all_goals exact absurd h.2 (by decide)
          obtain ⟨v1, cr, rfl, e1, e2⟩ := ax_popk M3
          obtain ⟨x, rfl, e3⟩ := pm_ok_i e1
          cases cr with
          | cons => exact e2.elim
          | nil =>
          have e4 := (pm_fit_ok (ty := .boolean) (x := x) (by rw [e3]; exact hG.1)).1
          refine W.zret (ty := .boolean) hx hb (by rw [hr]; exact hr0) e4 (fun tt h1 h2 => fin _ _ tt h1 h2 hG.2 ?_) hS1.2.2 hd
          rw [hr0]
          exact ⟨e3, trivial⟩
        · rename_i a hr0
          cases hret
          obtain rfl : i = .lreturn := by
            rcases hk with h | h | h | h
            · exact absurd h.2 (by decide)
            · exact absurd h.2 (by decide)
            · exact h.1
            · exact absurd h.2 (by decide)
          obtain ⟨v1, cr, rfl, e1, e2⟩ := ax_popk M3
          obtain ⟨x, rfl, e3⟩ := pm_ok_l e1
          cases cr with
          | cons => exact e2.elim
          | nil =>
          refine W.lret hx hb (by rw [hr]; exact hr0) (fun tt h1 h2 => fin _ _ tt h1 h2 hG.2 ?_) hS1.2.2 hd
          rw [hr0]
          exact ⟨e3, trivial⟩
        · rename_i cn0 ra hr0
          cases hret
          obtain rfl : i = .areturn := by
            rcases hk with h | h | h | h
            · exact absurd h.2 (by decide)
            · exact absurd h.2 (by decide)
            · exact absurd h.2 (by decide)
            · exact h.1
          obtain ⟨v1, cr, rfl, e1, e2⟩ := ax_popk M3
          have e3 : v1 = .null ∨ ∃ a, v1 = .ref a := by
            rcases ra with _ | ra
            · exact Or.inl (pm_ok_n e1)
            · obtain ⟨q, hq, -⟩ := pm_ok_r e1
              exact Or.inr ⟨q, hq⟩
          cases cr with
          | cons => exact e2.elim
          | nil =>
          refine W.aret hx hb (by rw [hr]; exact hr0) (Or.inl ⟨_, rfl⟩) e3 (fun tt h1 h2 => fin _ _ tt h1 h2 hG.2 ?_) hS1.2.2 hd
          rw [hr0]
          refine ⟨?_, trivial⟩
          have e4 : pm_ref (pm_unref ra) = ra := by
            cases ra with
            | none => rfl
            | some k =>
              unfold pm_ref pm_unref
              dsimp only
              rw [if_neg (by omega)]
              simp
          rw [e4]
          exact e1
        · cases hret
      · cases hret
end PMH
