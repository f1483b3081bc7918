/-! THE PURE MACHINE: an equation an instruction -/
section PE
/-- reading and writing arrays of ints, of bytes and booleans, of longs -/
def pm_ia (q : Nat) (i : Int) : Prop := match pm_arr 0 q with
  | some (ty, n, _) => ty = .int ∧ 0 ≤ i ∧ i < (n : Int)
  | none => False
def pm_ba (q : Nat) (i : Int) : Prop := match pm_arr 0 q with
  | some (ty, n, _) => (ty = .byte ∨ ty = .boolean) ∧ 0 ≤ i ∧ i < (n : Int)
  | none => False
def pm_la (q : Nat) (i : Int) : Prop := match pm_arr 0 q with
  | some (ty, n, _) => ty = .long ∧ 0 ≤ i ∧ i < (n : Int)
  | none => False
def pm_iw (q : Nat) (i : Int) : Prop := match pm_arr 0 q with
  | some (ty, n, true) => ty = .int ∧ 0 ≤ i ∧ i < (n : Int)
  | _ => False
def pm_bw (q : Nat) (i : Int) : Prop := match pm_arr 0 q with
  | some (ty, n, true) => (ty = .byte ∨ ty = .boolean) ∧ 0 ≤ i ∧ i < (n : Int)
  | _ => False
def pm_lw (q : Nat) (i : Int) : Prop := match pm_arr 0 q with
  | some (ty, n, true) => ty = .long ∧ 0 ≤ i ∧ i < (n : Int)
  | _ => False
def pm_bn (q : Nat) (v : Int) : Int := match pm_arr 0 q with
  | some (ty, _, _) => pm_nar ty v
  | none => v
def pm_al (q : Nat) (n : Nat) : Prop := (pm_arr 0 q).map (fun z => z.2.1) = some n
def pm_cw (a : Nat) (i : Int) (d : Nat) (j n : Int) : Prop := match pm_arr 0 a, pm_arr 0 d with
  | some (.int, na, _), some (.int, nd, true) => (0 ≤ i ∧ 0 ≤ j ∧ 0 ≤ n) ∧ i + n ≤ (na : Int) ∧ j + n ≤ (nd : Int)
  | _, _ => False
variable {mi : Nat} {t : ax_T} {Q : pm_Q} {pc : Nat} {lv : pm_L} {st : List pm_V} {σ : pm_H}
theorem pe_go {pc' : Nat} {lv' : pm_L} {st' : List pm_V} {σ' : pm_H} (ht : ax_tab[mi]? = some t) (i : Instr) (len : Nat) (hd : decode t.2.1 pc = .ok (i, len)) (h : pm_op t.2.2.2.2.1.1 t.2.2.1 0 t.2.2.2.1 i len pc lv st σ = pm_go (pc', lv', st', σ')) : pm_R mi Q pc lv st σ = pm_R mi Q pc' lv' st' σ' := by
  rw [pm_R_eq ht Q hd, h]
  unfold pm_go
  dsimp only
  unfold pm_NG
  dsimp only
  exact propext ⟨fun h => h.2 _ List.mem_cons_self trivial, fun h => ⟨trivial, fun c hc _ => by cases List.mem_singleton.mp hc; exact h⟩⟩
theorem pe_g1 {g : Prop} {pc' : Nat} {lv' : pm_L} {st' : List pm_V} {σ' : pm_H} (ht : ax_tab[mi]? = some t) (i : Instr) (len : Nat) (hd : decode t.2.1 pc = .ok (i, len)) (h : pm_op t.2.2.2.2.1.1 t.2.2.1 0 t.2.2.2.1 i len pc lv st σ = some (.inl (g, [(True, (pc', lv', st', σ'))]))) : pm_R mi Q pc lv st σ = (g ∧ pm_R mi Q pc' lv' st' σ') := by
  rw [pm_R_eq ht Q hd, h]
  dsimp only
  unfold pm_NG
  dsimp only
  exact propext ⟨fun h => ⟨h.1, h.2 _ List.mem_cons_self trivial⟩, fun h => ⟨h.1, fun c hc _ => by cases List.mem_singleton.mp hc; exact h.2⟩⟩
theorem pe_g0 {pc' : Nat} {lv' : pm_L} {st' : List pm_V} {σ' : pm_H} (ht : ax_tab[mi]? = some t) (i : Instr) (len : Nat) (hd : decode t.2.1 pc = .ok (i, len)) (h : pm_op t.2.2.2.2.1.1 t.2.2.1 0 t.2.2.2.1 i len pc lv st σ = some (.inl (True, [(True, (pc', lv', st', σ'))]))) : pm_R mi Q pc lv st σ = pm_R mi Q pc' lv' st' σ' := (pe_g1 ht i len hd h).trans (true_and _)
theorem pe_br {P N : Prop} {pc1 pc2 : Nat} {st' : List pm_V} (ht : ax_tab[mi]? = some t) (i : Instr) (len : Nat) (hd : decode t.2.1 pc = .ok (i, len)) (h : pm_op t.2.2.2.2.1.1 t.2.2.1 0 t.2.2.2.1 i len pc lv st σ = some (.inl (True, [(P, (pc1, lv, st', σ)), (N, (pc2, lv, st', σ))]))) : pm_R mi Q pc lv st σ = ((P → pm_R mi Q pc1 lv st' σ) ∧ (N → pm_R mi Q pc2 lv st' σ)) := by
  rw [pm_R_eq ht Q hd, h]
  dsimp only
  unfold pm_NG
  dsimp only
  refine propext ⟨fun h => ⟨fun p => h.2 _ List.mem_cons_self p, fun p => h.2 _ (List.mem_cons_of_mem _ List.mem_cons_self) p⟩, fun h => ⟨trivial, fun c hc p => ?_⟩⟩
  rcases List.mem_cons.mp hc with rfl | hc
  · exact h.1 p
  · cases List.mem_singleton.mp hc
    exact h.2 p
theorem pe_fm {g : Prop} {pc' : Nat} {st1 st2 : List pm_V} (ht : ax_tab[mi]? = some t) (i : Instr) (len : Nat) (hd : decode t.2.1 pc = .ok (i, len)) (h : pm_op t.2.2.2.2.1.1 t.2.2.1 0 t.2.2.2.1 i len pc lv st σ = some (.inl (g, [(True, (pc', lv, st1, σ)), (True, (pc', lv, st2, σ))]))) : pm_R mi Q pc lv st σ = (g ∧ pm_R mi Q pc' lv st1 σ ∧ pm_R mi Q pc' lv st2 σ) := by
  rw [pm_R_eq ht Q hd, h]
  dsimp only
  unfold pm_NG
  dsimp only
  refine propext ⟨fun h => ⟨h.1, h.2 _ List.mem_cons_self trivial, h.2 _ (List.mem_cons_of_mem _ List.mem_cons_self) trivial⟩, fun h => ⟨h.1, fun c hc p => ?_⟩⟩
  rcases List.mem_cons.mp hc with rfl | hc
  · exact h.2.1
  · cases List.mem_singleton.mp hc
    exact h.2.2
theorem pe_sw {l : List (Prop × pm_S)} (ht : ax_tab[mi]? = some t) (i : Instr) (len : Nat) (hd : decode t.2.1 pc = .ok (i, len)) (h : pm_op t.2.2.2.2.1.1 t.2.2.1 0 t.2.2.2.1 i len pc lv st σ = some (.inl (True, l))) : pm_R mi Q pc lv st σ = (∀ c ∈ l, c.1 → pm_R mi Q c.2.1 c.2.2.1 c.2.2.2.1 c.2.2.2.2) := by
  rw [pm_R_eq ht Q hd, h]
  dsimp only
  unfold pm_NG
  dsimp only
  exact propext ⟨fun h => h.2, fun h => ⟨trivial, h⟩⟩
theorem pe_call {mi' pc' : Nat} {as : List pm_V} {f : Int → List pm_V} (ht : ax_tab[mi]? = some t) (i : Instr) (len : Nat) (hd : decode t.2.1 pc = .ok (i, len)) (h : pm_op t.2.2.2.2.1.1 t.2.2.1 0 t.2.2.2.1 i len pc lv st σ = some (.inr (.inl (mi', as, fun r τ => (pc', lv, f r, τ))))) (hr : pm_dpf mi' < pm_dpf mi) : pm_R mi Q pc lv st σ = pm_Ter mi' as σ (fun r τ => pm_R mi Q pc' lv (f r) τ) := by
  rw [pm_R_eq ht Q hd, h]
  dsimp only
  unfold pm_NG
  dsimp only
  unfold pm_call
  exact propext ⟨fun h => h.2, fun h => ⟨hr, h⟩⟩
theorem pe_ret {g : Prop} {r : Int} (ht : ax_tab[mi]? = some t) (i : Instr) (len : Nat) (hd : decode t.2.1 pc = .ok (i, len)) (h : pm_op t.2.2.2.2.1.1 t.2.2.1 0 t.2.2.2.1 i len pc lv st σ = some (.inr (.inr (g, r)))) : pm_R mi Q pc lv st σ = (g ∧ Q r σ) := by
  rw [pm_R_eq ht Q hd, h]
  rfl
theorem pe_ret0 {r : Int} (ht : ax_tab[mi]? = some t) (i : Instr) (len : Nat) (hd : decode t.2.1 pc = .ok (i, len)) (h : pm_op t.2.2.2.2.1.1 t.2.2.1 0 t.2.2.2.1 i len pc lv st σ = some (.inr (.inr (True, r)))) : pm_R mi Q pc lv st σ = Q r σ := (pe_ret ht i len hd h).trans (true_and _)
theorem pe_in (ht : ax_tab[mi]? = some t) {as : List pm_V} (hw : pm_words as ≤ t.2.2.1) : pm_Ter mi as σ Q = pm_R mi Q 0 (pm_ent t.2.2.1 as) [] σ := by
  rw [pm_Ter_eq ht]
  exact propext ⟨fun h => h.2, fun h => ⟨hw, h⟩⟩
theorem pe_none (ht : ax_tab[mi]? = some t) {i : Instr} {len : Nat} (hd : decode t.2.1 pc = .ok (i, len)) (h : pm_op t.2.2.2.2.1.1 t.2.2.1 0 t.2.2.2.1 i len pc lv st σ = none) : pm_R mi Q pc lv st σ = False := by
  rw [pm_R_eq ht Q hd, h]
theorem pe_xld {g : Prop} {q : Nat} {i : Int} (ht : ax_tab[mi]? = some t) {j : Instr} {ts : List FieldType} (hd : decode t.2.1 pc = .ok (j, 1)) (hj : ∀ st, pm_op t.2.2.2.2.1.1 t.2.2.1 0 t.2.2.2.1 j 1 pc lv st σ = pm_xld 0 ts 1 pc lv st σ) (hg : g = (match pm_arr 0 q with
  | some (ty, n, _) => ty ∈ ts ∧ 0 ≤ i ∧ i < (n : Int)
  | none => False)) : pm_R mi Q pc lv (.inl i :: .inr (.inr (some q)) :: st) σ = (g ∧ pm_R mi Q (pc + 1) lv (.inl (σ q i) :: st) σ) := by
  have h := hj (.inl i :: .inr (.inr (some q)) :: st)
  unfold pm_xld at h
  dsimp only at h
  cases hq : pm_arr 0 q with
  | none =>
    rw [hq] at h hg
    rw [pe_none ht hd h, hg]
    simp
  | some z =>
    obtain ⟨ty, n, w⟩ := z
    rw [hq] at h hg
    dsimp only at h hg
    by_cases hty : ty ∈ ts
    · rw [if_pos ⟨hty, rfl⟩] at h
      rw [pe_g1 ht _ _ hd h, hg]
      simp [hty]
    · rw [if_neg (fun z => hty z.1)] at h
      rw [pe_none ht hd h, hg]
      simp [hty]
theorem pe_iald {q : Nat} {i : Int} (ht : ax_tab[mi]? = some t) (hd : decode t.2.1 pc = .ok (.iaload, 1)) : pm_R mi Q pc lv (.inl i :: .inr (.inr (some q)) :: st) σ = (pm_ia q i ∧ pm_R mi Q (pc + 1) lv (.inl (σ q i) :: st) σ) := by
  refine pe_xld ht hd (ts := [.int]) (fun _ => rfl) ?_
  unfold pm_ia
  cases pm_arr 0 q <;> simp
theorem pe_bald {q : Nat} {i : Int} (ht : ax_tab[mi]? = some t) (hd : decode t.2.1 pc = .ok (.baload, 1)) : pm_R mi Q pc lv (.inl i :: .inr (.inr (some q)) :: st) σ = (pm_ba q i ∧ pm_R mi Q (pc + 1) lv (.inl (σ q i) :: st) σ) := by
  refine pe_xld ht hd (ts := [.byte, .boolean]) (fun _ => rfl) ?_
  unfold pm_ba
  cases pm_arr 0 q <;> simp
theorem pe_lald {q : Nat} {i : Int} (ht : ax_tab[mi]? = some t) (hd : decode t.2.1 pc = .ok (.laload, 1)) : pm_R mi Q pc lv (.inl i :: .inr (.inr (some q)) :: st) σ = (pm_la q i ∧ pm_R mi Q (pc + 1) lv (.inr (.inl (σ q i)) :: st) σ) := by
  have h : pm_op t.2.2.2.2.1.1 t.2.2.1 0 t.2.2.2.1 .laload 1 pc lv (.inl i :: .inr (.inr (some q)) :: st) σ = pm_lald 1 pc lv (.inl i :: .inr (.inr (some q)) :: st) σ := rfl
  unfold pm_lald at h
  dsimp only at h
  unfold pm_la
  cases hq : pm_arr 0 q with
  | none =>
    rw [hq] at h
    rw [pe_none ht hd h]
    simp
  | some z =>
    obtain ⟨ty, n, w⟩ := z
    rw [hq] at h
    dsimp only at h ⊢
    by_cases hty : ty = .long
    · rw [if_pos ⟨hty, rfl⟩] at h
      rw [pe_g1 ht _ _ hd h]
      simp [hty]
    · rw [if_neg (fun z => hty z.1)] at h
      rw [pe_none ht hd h]
      simp [hty]
theorem pe_xst {g : Prop} {q : Nat} {i v : Int} (ht : ax_tab[mi]? = some t) {j : Instr} {ts : List FieldType} (hd : decode t.2.1 pc = .ok (j, 1)) (hj : ∀ st, pm_op t.2.2.2.2.1.1 t.2.2.1 0 t.2.2.2.1 j 1 pc lv st σ = pm_xst ts 1 pc lv st σ) (hg : g = (match pm_arr 0 q with
  | some (ty, n, true) => ty ∈ ts ∧ 0 ≤ i ∧ i < (n : Int)
  | _ => False)) : pm_R mi Q pc lv (.inl v :: .inl i :: .inr (.inr (some q)) :: st) σ = (g ∧ pm_R mi Q (pc + 1) lv st (pm_up σ q i (pm_bn q v))) := by
  have h := hj (.inl v :: .inl i :: .inr (.inr (some q)) :: st)
  unfold pm_xst at h
  dsimp only at h
  cases hq : pm_arr 0 q with
  | none =>
    rw [hq] at h hg
    rw [pe_none ht hd h, hg]
    simp
  | some z =>
    obtain ⟨ty, n, w⟩ := z
    have hb : pm_bn q v = pm_nar ty v := by
      unfold pm_bn
      rw [hq]
    rw [hq] at h hg
    cases w with
    | false =>
      rw [pe_none ht hd h, hg]
      simp
    | true =>
      dsimp only at h hg
      by_cases hty : ty ∈ ts
      · rw [if_pos ⟨hty, rfl⟩] at h
        rw [pe_g1 ht _ _ hd h, hg, hb]
        simp [hty]
      · rw [if_neg (fun z => hty z.1)] at h
        rw [pe_none ht hd h, hg]
        simp [hty]
theorem pe_iast {q : Nat} {i v : Int} (ht : ax_tab[mi]? = some t) (hd : decode t.2.1 pc = .ok (.iastore, 1)) : pm_R mi Q pc lv (.inl v :: .inl i :: .inr (.inr (some q)) :: st) σ = (pm_iw q i ∧ pm_R mi Q (pc + 1) lv st (pm_up σ q i v)) := by
  have h := pe_xst (Q := Q) (lv := lv) (st := st) (σ := σ) (q := q) (i := i) (v := v) (g := pm_iw q i) ht hd (ts := [.int]) (fun _ => rfl) (by
    unfold pm_iw
    rcases pm_arr 0 q with _ | ⟨ty, n, _ | _⟩ <;> simp)
  rw [h]
  refine propext ⟨fun z => ⟨z.1, ?_⟩, fun z => ⟨z.1, ?_⟩⟩
  all_goals
    have e : pm_bn q v = v := by
      have z1 := z.1
      unfold pm_iw at z1
      unfold pm_bn
      split at z1
      · rename_i ty n hq
        rw [hq, z1.1]
        rfl
      · exact z1.elim
  · rw [e] at z; exact z.2
  · rw [e]; exact z.2
theorem pe_bast {q : Nat} {i v : Int} (ht : ax_tab[mi]? = some t) (hd : decode t.2.1 pc = .ok (.bastore, 1)) : pm_R mi Q pc lv (.inl v :: .inl i :: .inr (.inr (some q)) :: st) σ = (pm_bw q i ∧ pm_R mi Q (pc + 1) lv st (pm_up σ q i (pm_bn q v))) := by
  refine pe_xst ht hd (ts := [.byte, .boolean]) (fun _ => rfl) ?_
  unfold pm_bw
  rcases pm_arr 0 q with _ | ⟨ty, n, _ | _⟩ <;> simp
theorem pe_last {q : Nat} {i v : Int} (ht : ax_tab[mi]? = some t) (hd : decode t.2.1 pc = .ok (.lastore, 1)) : pm_R mi Q pc lv (.inr (.inl v) :: .inl i :: .inr (.inr (some q)) :: st) σ = (pm_lw q i ∧ pm_R mi Q (pc + 1) lv st (pm_up σ q i v)) := by
  have h : pm_op t.2.2.2.2.1.1 t.2.2.1 0 t.2.2.2.1 .lastore 1 pc lv (.inr (.inl v) :: .inl i :: .inr (.inr (some q)) :: st) σ = pm_last 1 pc lv (.inr (.inl v) :: .inl i :: .inr (.inr (some q)) :: st) σ := rfl
  unfold pm_last at h
  dsimp only at h
  unfold pm_lw
  cases hq : pm_arr 0 q with
  | none =>
    rw [hq] at h
    rw [pe_none ht hd h]
    simp
  | some z =>
    obtain ⟨ty, n, w⟩ := z
    rw [hq] at h
    cases w with
    | false =>
      rw [pe_none ht hd h]
      simp
    | true =>
      dsimp only at h ⊢
      by_cases hty : ty = .long
      · rw [if_pos ⟨hty, rfl⟩] at h
        rw [pe_g1 ht _ _ hd h]
        simp [hty]
      · rw [if_neg (fun z => hty z.1)] at h
        rw [pe_none ht hd h]
        simp [hty]
theorem pe_alen {q n : Nat} (ht : ax_tab[mi]? = some t) (hd : decode t.2.1 pc = .ok (.arraylength, 1)) (hq : pm_al q n) (hn : n < 2147483648) : pm_R mi Q pc lv (.inr (.inr (some q)) :: st) σ = pm_R mi Q (pc + 1) lv (.inl (n : Int) :: st) σ := by
  have h : pm_op t.2.2.2.2.1.1 t.2.2.1 0 t.2.2.2.1 .arraylength 1 pc lv (.inr (.inr (some q)) :: st) σ = pm_alen 0 1 pc lv (.inr (.inr (some q)) :: st) σ := rfl
  unfold pm_alen at h
  dsimp only at h
  unfold pm_al at hq
  obtain ⟨⟨ty, n', w⟩, h1, h2⟩ := Option.map_eq_some_iff.mp hq
  dsimp only at h2
  subst h2
  rw [h1] at h
  dsimp only at h
  rw [if_pos ⟨rfl, hn⟩] at h
  exact pe_go ht _ _ hd h
theorem pe_copy {a d : Nat} {sp dp n : Int} {j : Nat} (ht : ax_tab[mi]? = some t) (hd : decode t.2.1 pc = .ok (.invokestatic j, 3)) (hj : (pm_acf t.2.2.2.2.1.1 j).isSome = true) : pm_R mi Q pc lv [.inl n, .inl dp, .inr (.inr (some d)), .inl sp, .inr (.inr (some a))] σ = (pm_cw a sp d dp n ∧ pm_R mi Q (pc + 3) lv [] (pm_cp σ a sp d dp n)) := by
  have h : pm_op t.2.2.2.2.1.1 t.2.2.1 0 t.2.2.2.1 (.invokestatic j) 3 pc lv [.inl n, .inl dp, .inr (.inr (some d)), .inl sp, .inr (.inr (some a))] σ = pm_copy 3 pc lv [.inl n, .inl dp, .inr (.inr (some d)), .inl sp, .inr (.inr (some a))] σ := by
    show pm_stat _ _ _ _ _ _ _ = _
    unfold pm_stat
    obtain ⟨e0, he⟩ := Option.isSome_iff_exists.mp hj
    rw [he]
  unfold pm_copy at h
  dsimp only at h
  unfold pm_cw
  split at h
  · rename_i na w nd ha hdd
    rw [if_pos ⟨Nat.le_of_ble_eq_true rfl, rfl⟩] at h
    rw [pe_g1 ht _ _ hd h, ha, hdd]
  · rename_i hne
    rw [pe_none ht hd h]
    simp
/-- the six groups -/
def pm_isG (p : Nat) : Prop := p = 41 ∨ p = 47 ∨ p = 53 ∨ p = 59 ∨ p = 65 ∨ p = 71
theorem pm_gG {p : Nat} (h : pm_isG p) (P : Nat → Prop) (h1 : P 41) (h2 : P 47) (h3 : P 53) (h4 : P 59) (h5 : P 65) (h6 : P 71) : P p := by
  rcases h with rfl | rfl | rfl | rfl | rfl | rfl <;> assumption
theorem pm_isG_of {i : Int} (h : 0 ≤ i ∧ i < 6) : pm_isG (41 + 6 * i.toNat) := by
  unfold pm_isG
  omega
theorem pe_aald {i : Int} (ht : ax_tab[mi]? = some t) (hd : decode t.2.1 pc = .ok (.aaload, 1)) : pm_R mi Q pc lv (.inl i :: .inr (.inr (some 5)) :: st) σ = ((0 ≤ i ∧ i < 6) ∧ pm_R mi Q (pc + 1) lv (.inr (.inr (some (41 + 6 * i.toNat))) :: st) σ) := by
  have h : pm_op t.2.2.2.2.1.1 t.2.2.1 0 t.2.2.2.1 .aaload 1 pc lv (.inl i :: .inr (.inr (some 5)) :: st) σ = some (.inl (0 ≤ i ∧ i < ((6 : Nat) : Int), (List.range 6).map (fun (j : Nat) => (i = (j : Int), (pc + 1, lv, .inr (.inr (([some 41, some 47, some 53, some 59, some 65, some 71] : List (Option Nat)).getD j none)) :: st, σ))))) := rfl
  rw [pm_R_eq ht Q hd, h]
  dsimp only
  unfold pm_NG
  dsimp only
  have key : ∀ j : Nat, j < 6 → ([some 41, some 47, some 53, some 59, some 65, some 71] : List (Option Nat)).getD j none = some (41 + 6 * j) := by decide
  refine propext ⟨fun z => ⟨z.1, ?_⟩, fun z => ⟨z.1, fun c hc hp => ?_⟩⟩
  · have hi : i.toNat < 6 := by omega
    have h2 := z.2 _ (List.mem_map.mpr ⟨i.toNat, List.mem_range.mpr hi, rfl⟩) (by show i = ((i.toNat : Nat) : Int); omega)
    rw [key _ hi] at h2
    exact h2
  · obtain ⟨j, hj, rfl⟩ := List.mem_map.mp hc
    have hj := List.mem_range.mp hj
    have e : i.toNat = j := by
      have : i = (j : Int) := hp
      omega
    have z2 := z.2
    rw [e] at z2
    dsimp only
    rw [key j hj]
    exact z2
end PE
