/-! ABSTRACT RUNS: every instruction, every run, every method -/
section AXE
def ax_kchk (e : Nat × (Nat × (Int32 × Nat))) : Bool := decide (lw_tbl[e.2.2.2]? = some (.constant (ax_nm e.1) e.2.1 e.2.2.1)) && goodWord (.constant (ax_nm e.1) e.2.1 e.2.2.1)
theorem ax_kchk_ok : ax_ic.all ax_kchk = true := by decide +kernel
def ax_kchk2 (e : Nat × (Nat × (Int64 × Nat))) : Bool := decide (lw_tbl[e.2.2.2]? = some (.constantLong (ax_nm e.1) e.2.1 e.2.2.1)) && goodWord (.constantLong (ax_nm e.1) e.2.1 e.2.2.1)
set_option maxRecDepth 100000 in
theorem ax_kchk2_ok : ax_lc.all ax_kchk2 = true := by decide +kernel
variable {p : Program} {l : Launch} {e : Env} {R : Room} {s : State} {m : MethodId} {args : Array Value} {below : List Frame} {meth : Method} {c : Code} {Q : State → Prop} {D : va_G} {A : Nat → Prop} {b : Nat} {γ : Nat → Int} {pv : List Value} {own : Nat} {ini : Bool} {nL L mc ms d : Nat} {cc : ByteArray} {xs : Nat → Int32} {call : ax_F}
theorem ax_ldc_ok (X : ax_X p R s m args meth c A b γ pv own ini nL L mc ms d cc xs) {i len pc : Nat} {lv : ax_L} {st : ax_K} {hp : List ax_C} {pr : List ax_V} {cn : Nat × Nat} {out : List ax_S} (hd : decode cc pc = .ok (.ldc i, len)) (h : ax_ldc own i len pc lv st hp pr cn = some out) (hG : ∀ S ∈ out, ax_G p l e R s m args below meth c Q D A b γ pv nL S) : ax_G p l e R s m args below meth c Q D A b γ pv nL (pc, lv, st, hp, pr, cn) := by
  obtain ⟨⟨hx, hb, hml, hown, hts⟩, -⟩ := X
  unfold ax_ldc at h
  split at h
  · rename_i e0 he
    unfold ax_icf at he
    have hm := List.mem_of_find?_eq_some he
    have hp0 := List.find?_some he
    simp only [Bool.and_eq_true, beq_iff_eq] at hp0
    have h1 := List.all_eq_true.mp ax_kchk_ok _ hm
    unfold ax_kchk at h1
    rw [hp0.1, hp0.2] at h1
    simp only [Bool.and_eq_true, decide_eq_true_eq] at h1
    refine ax_push_ok (val := .int e0.2.2.1) ?_ ?_ h hG
    · exact fun R => ax_c_ok γ _
    · exact fun hl => by subst hl; intro H locs ls rest kk; exact lv_ldc hx hb hown (hts _ (ax_in _ h1.1 h1.2)) hd kk
  · cases h
theorem ax_ldcw_ok (X : ax_X p R s m args meth c A b γ pv own ini nL L mc ms d cc xs) {i len pc : Nat} {lv : ax_L} {st : ax_K} {hp : List ax_C} {pr : List ax_V} {cn : Nat × Nat} {out : List ax_S} (hd : decode cc pc = .ok (.ldc_w i, len)) (h : ax_ldcw own i len pc lv st hp pr cn = some out) (hG : ∀ S ∈ out, ax_G p l e R s m args below meth c Q D A b γ pv nL S) : ax_G p l e R s m args below meth c Q D A b γ pv nL (pc, lv, st, hp, pr, cn) := by
  obtain ⟨⟨hx, hb, hml, hown, hts⟩, -⟩ := X
  unfold ax_ldcw at h
  split at h
  · rename_i e0 he
    unfold ax_icf at he
    have hm := List.mem_of_find?_eq_some he
    have hp0 := List.find?_some he
    simp only [Bool.and_eq_true, beq_iff_eq] at hp0
    have h1 := List.all_eq_true.mp ax_kchk_ok _ hm
    unfold ax_kchk at h1
    rw [hp0.1, hp0.2] at h1
    simp only [Bool.and_eq_true, decide_eq_true_eq] at h1
    refine ax_push_ok (val := .int e0.2.2.1) ?_ ?_ h hG
    · exact fun R => ax_c_ok γ _
    · exact fun hl => by subst hl; intro H locs ls rest kk; exact lv_ldcw hx hb hown (hts _ (ax_in _ h1.1 h1.2)) hd kk
  · cases h
theorem ax_ldc2_ok (X : ax_X p R s m args meth c A b γ pv own ini nL L mc ms d cc xs) {i len pc : Nat} {lv : ax_L} {st : ax_K} {hp : List ax_C} {pr : List ax_V} {cn : Nat × Nat} {out : List ax_S} (hd : decode cc pc = .ok (.ldc2_w i, len)) (h : ax_ldc2 own i len pc lv st hp pr cn = some out) (hG : ∀ S ∈ out, ax_G p l e R s m args below meth c Q D A b γ pv nL S) : ax_G p l e R s m args below meth c Q D A b γ pv nL (pc, lv, st, hp, pr, cn) := by
  obtain ⟨⟨hx, hb, hml, hown, hts⟩, -⟩ := X
  unfold ax_ldc2 at h
  split at h
  · rename_i e0 he
    unfold ax_lcf at he
    have hm := List.mem_of_find?_eq_some he
    have hp0 := List.find?_some he
    simp only [Bool.and_eq_true, beq_iff_eq] at hp0
    have h1 := List.all_eq_true.mp ax_kchk2_ok _ hm
    unfold ax_kchk2 at h1
    rw [hp0.1, hp0.2] at h1
    simp only [Bool.and_eq_true, decide_eq_true_eq] at h1
    refine ax_push_ok (val := .long e0.2.2.1) ?_ ?_ h hG
    · exact fun R => ⟨Int.le_refl _, Int.le_refl _⟩
    · exact fun hl => by subst hl; intro H locs ls rest kk; exact lv_ldc2 hx hb hown (hts _ (ax_in _ h1.1 h1.2)) hd kk
  · cases h
theorem ax_ne0 {b : ax_I} {y : Int64} {a z : ax_I} (h : ax_ldiv a b = some z) (hb : b.1 ≤ y.toInt ∧ y.toInt ≤ b.2) : ¬ y = 0 := by
  intro hy
  subst hy
  have h0 : (0 : Int64).toInt = 0 := by decide
  unfold ax_ldiv at h
  split at h
  · omega
  · cases h
theorem ax_ldiv_top {a b z : ax_I} (h : ax_ldiv a b = some z) : z = ax_topL := by
  unfold ax_ldiv at h
  split at h <;> cases h
  rfl
theorem ax_op_ok (X : ax_X p R s m args meth c A b γ pv own ini nL L mc ms d cc xs) (hcon : ax_Con l call d) {i : Instr} {len pc : Nat} {lv : ax_L} {st : ax_K} {hp : List ax_C} {pr : List ax_V} {cn : Nat × Nat} {out : List ax_S} (hd : decode cc pc = .ok (i, len)) (h : ax_op own ini nL L mc ms call i len pc lv st hp pr cn = some out) (hG : ∀ S ∈ out, ax_G p l e R s m args below meth c Q D A b γ pv nL S) : ax_G p l e R s m args below meth c Q D A b γ pv nL (pc, lv, st, hp, pr, cn) := by
  have X0 := X
  obtain ⟨⟨hx, hb, hml, hown, hts⟩, -⟩ := X0
  cases i with
  | iconst v =>
    refine ax_push_ok (val := .int (Int32.ofInt v)) ?_ ?_ h hG
    · exact fun R => ax_c_ok γ _
    · exact fun hl => by subst hl; intro H locs ls rest kk; exact lv_iconst hx hb hd rfl kk
  | bipush v =>
    refine ax_push_ok (val := .int (Int8.ofInt v).toInt32) ?_ ?_ h hG
    · exact fun R => ax_c_ok γ _
    · exact fun hl => by subst hl; intro H locs ls rest kk; exact lv_bipush hx hb hd rfl kk
  | sipush v =>
    refine ax_push_ok (val := .int (Int16.ofInt v).toInt32) ?_ ?_ h hG
    · exact fun R => ax_c_ok γ _
    · exact fun hl => by subst hl; intro H locs ls rest kk; exact lv_sipush hx hb hd rfl kk
  | lconst v =>
    refine ax_push_ok (val := .long (Int64.ofNat v)) ?_ ?_ h hG
    · exact fun R => ⟨Int.le_refl _, Int.le_refl _⟩
    · exact fun hl => by subst hl; intro H locs ls rest kk; exact lv_lconst hx hb hd rfl kk
  | aconst_null =>
    refine ax_push_ok (val := .null) ?_ ?_ h hG
    · exact fun R => trivial
    · exact fun hl => by subst hl; intro H locs ls rest kk; exact lv_null hx hb hd kk
  | ldc j => exact ax_ldc_ok X hd h hG
  | ldc_w j => exact ax_ldcw_ok X hd h hG
  | ldc2_w j => exact ax_ldc2_ok X hd h hG
  | iload_n j => exact ax_ld_ok (fun _ hl => by subst hl; intro H locs ls rest x e kk; exact lv_iload_n hx hb hd rfl e kk) (fun h => by cases h) (fun h => by cases h) (fun h => by cases h) h hG
  | iload j => exact ax_ld_ok (fun _ hl => by subst hl; intro H locs ls rest x e kk; exact lv_iload hx hb hd e kk) (fun h => by cases h) (fun h => by cases h) (fun h => by cases h) h hG
  | lload_n j => exact ax_ld_ok (fun h => by cases h) (fun _ hl => by subst hl; intro H locs ls rest x e kk; exact lv_lload_n hx hb hd rfl e kk) (fun h => by cases h) (fun h => by cases h) h hG
  | lload j => exact ax_ld_ok (fun h => by cases h) (fun _ hl => by subst hl; intro H locs ls rest x e kk; exact lv_lload hx hb hd e kk) (fun h => by cases h) (fun h => by cases h) h hG
  | aload_n j => exact ax_ld_ok (fun h => by cases h) (fun h => by cases h) (fun _ hl => by subst hl; intro H locs ls rest x e kk; exact lv_aload_n hx hb hd rfl e kk) (fun _ hl => by subst hl; intro H locs ls rest e kk; exact lv_aload_nN hx hb hd rfl e kk) h hG
  | aload j => exact ax_ld_ok (fun h => by cases h) (fun h => by cases h) (fun _ hl => by subst hl; intro H locs ls rest x e kk; exact lv_aload hx hb hd e kk) (fun _ hl => by subst hl; intro H locs ls rest e kk; exact lv_aloadN hx hb hd e kk) h hG
  | istore_n j => exact ax_st_ok (fun {v} _ g1 _ _ hl hn => by obtain ⟨x, rfl⟩ := g1 rfl; subst hl; intro H locs ls rest cv hh kk; exact lv_istore_n hx hb hd rfl hh hn rfl kk) (fun h => by cases h) h hG
  | istore j => exact ax_st_ok (fun {v} _ g1 _ _ hl hn => by obtain ⟨x, rfl⟩ := g1 rfl; subst hl; intro H locs ls rest cv hh kk; exact lv_istore hx hb hd hh hn rfl kk) (fun h => by cases h) h hG
  | lstore_n j => exact ax_st_ok (fun {v} _ _ g2 _ hl hn => (g2 rfl).elim) (fun _ {x} hl hn => by subst hl; intro H locs ls rest cv hh kk; exact lv_lstore_n hx hb hd rfl hh hn rfl kk) h hG
  | lstore j => exact ax_st_ok (fun {v} _ _ g2 _ hl hn => (g2 rfl).elim) (fun _ {x} hl hn => by subst hl; intro H locs ls rest cv hh kk; exact lv_lstore hx hb hd hh hn rfl kk) h hG
  | astore_n j => exact ax_st_ok (fun {v} _ _ _ g3 hl hn => by
      subst hl
      intro H locs ls rest cv hh kk
      rcases g3 rfl with rfl | ⟨x, rfl⟩
      · exact lv_astore_nN hx hb hd rfl hh hn rfl kk
      · exact lv_astore_n hx hb hd rfl hh hn rfl kk) (fun h => by cases h) h hG
  | astore j => exact ax_st_ok (fun {v} _ _ _ g3 hl hn => by
      subst hl
      intro H locs ls rest cv hh kk
      rcases g3 rfl with rfl | ⟨x, rfl⟩
      · exact lv_astoreN hx hb hd hh hn rfl kk
      · exact lv_astore hx hb hd hh hn rfl kk) (fun h => by cases h) h hG
  | iinc j v => exact ax_iinc_ok X hd h hG
  | iadd =>
    refine ax_ii_ok (f := fun a b => some (ax_add a b)) (g := fun x y => x + y) ?_ ?_ h hG
    · exact fun a b z x y e ha hb => by cases e; exact ax_add_ok ha hb
    · exact fun hl => by subst hl; intro H locs ls rest x y _ kk; exact lv_iadd hx hb hd kk
  | isub =>
    refine ax_ii_ok (f := fun a b => some (ax_sub a b)) (g := fun x y => x - y) ?_ ?_ h hG
    · exact fun a b z x y e ha hb => by cases e; exact ax_sub_ok ha hb
    · exact fun hl => by subst hl; intro H locs ls rest x y _ kk; exact lv_isub hx hb hd kk
  | imul =>
    refine ax_ii_ok (f := fun a b => some (ax_mul a b)) (g := fun x y => x * y) ?_ ?_ h hG
    · exact fun a b z x y e ha hb => by cases e; exact ax_mul_ok ha hb
    · exact fun hl => by subst hl; intro H locs ls rest x y _ kk; exact lv_imul hx hb hd kk
  | idiv =>
    refine ax_ii_ok (f := ax_div) (g := fun x y => x / y) ?_ ?_ h hG
    · exact fun a b z x y e ha hb => ax_div_ok e ha hb
    · exact fun hl => by subst hl; intro H locs ls rest x y hz kk; obtain ⟨a, b2, z, e1, e2⟩ := hz; exact lv_idiv hx hb hd (ax_div_ne e1 e2) kk
  | irem =>
    refine ax_ii_ok (f := ax_rem) (g := fun x y => x - x / y * y) ?_ ?_ h hG
    · exact fun a b z x y e ha hb => ax_rem_ok e ha hb
    · exact fun hl => by subst hl; intro H locs ls rest x y hz kk; obtain ⟨a, b2, z, e1, e2⟩ := hz; exact lv_irem hx hb hd (ax_rem_ne e1 e2) kk
  | iand =>
    refine ax_ii_ok (f := fun a b => some (ax_and a b)) (g := fun x y => x &&& y) ?_ ?_ h hG
    · exact fun a b z x y e ha hb => by cases e; exact ax_and_ok ha hb
    · exact fun hl => by subst hl; intro H locs ls rest x y _ kk; exact lv_iand hx hb hd kk
  | ior =>
    refine ax_ii_ok (f := fun _ _ => some ax_topN) (g := fun x y => x ||| y) ?_ ?_ h hG
    · exact fun a b z x y e ha hb => by cases e; exact ax_topN_ok γ _
    · exact fun hl => by subst hl; intro H locs ls rest x y _ kk; exact lv_ior hx hb hd kk
  | ixor =>
    refine ax_ii_ok (f := fun _ _ => some ax_topN) (g := fun x y => x ^^^ y) ?_ ?_ h hG
    · exact fun a b z x y e ha hb => by cases e; exact ax_topN_ok γ _
    · exact fun hl => by subst hl; intro H locs ls rest x y _ kk; exact lv_ixor hx hb hd kk
  | ishl =>
    refine ax_ii_ok (f := fun _ _ => some ax_topN) (g := fun x y => x <<< (y &&& 31)) ?_ ?_ h hG
    · exact fun a b z x y e ha hb => by cases e; exact ax_topN_ok γ _
    · exact fun hl => by subst hl; intro H locs ls rest x y _ kk; exact lv_ishl hx hb hd kk
  | ishr =>
    refine ax_ii_ok (f := fun _ _ => some ax_topN) (g := fun x y => x >>> (y &&& 31)) ?_ ?_ h hG
    · exact fun a b z x y e ha hb => by cases e; exact ax_topN_ok γ _
    · exact fun hl => by subst hl; intro H locs ls rest x y _ kk; exact lv_ishr hx hb hd kk
  | iushr =>
    refine ax_ii_ok (f := fun _ _ => some ax_topN) (g := fun x y => (x.toUInt32 >>> (y.toUInt32 &&& Int32.toUInt32 31)).toInt32) ?_ ?_ h hG
    · exact fun a b z x y e ha hb => by cases e; exact ax_topN_ok γ _
    · exact fun hl => by subst hl; intro H locs ls rest x y _ kk; exact lv_iushr hx hb hd rfl kk
  | ineg => exact ax_ineg_ok X hd h hG
  | i2l => exact ax_i2l_ok X hd h hG
  | l2i => exact ax_l2i_ok X hd h hG
  | i2b => exact ax_i2b_ok X hd h hG
  | ladd =>
    refine ax_ll_ok (f := fun _ _ => some ax_topL) (g := fun x y => x + y) ?_ ?_ h hG
    · exact fun a b z x y e ha hb => by cases e; exact ax_ltL _
    · exact fun hl => by subst hl; intro H locs ls rest x y _ kk; exact lv_ladd hx hb hd kk
  | lsub =>
    refine ax_ll_ok (f := fun _ _ => some ax_topL) (g := fun x y => x - y) ?_ ?_ h hG
    · exact fun a b z x y e ha hb => by cases e; exact ax_ltL _
    · exact fun hl => by subst hl; intro H locs ls rest x y _ kk; exact lv_lsub hx hb hd kk
  | lmul =>
    refine ax_ll_ok (f := fun _ _ => some ax_topL) (g := fun x y => x * y) ?_ ?_ h hG
    · exact fun a b z x y e ha hb => by cases e; exact ax_ltL _
    · exact fun hl => by subst hl; intro H locs ls rest x y _ kk; exact lv_lmul hx hb hd kk
  | ldiv =>
    refine ax_ll_ok (f := ax_ldiv) (g := fun x y => x / y) ?_ ?_ h hG
    · exact fun a b z x y e ha hb => by cases ax_ldiv_top e; exact ax_ltL _
    · exact fun hl => by subst hl; intro H locs ls rest x y hz kk; obtain ⟨a, b2, z, e1, e2⟩ := hz; exact lv_ldiv hx hb hd (ax_ne0 e1 e2) kk
  | lrem =>
    refine ax_ll_ok (f := ax_ldiv) (g := fun x y => x - x / y * y) ?_ ?_ h hG
    · exact fun a b z x y e ha hb => by cases ax_ldiv_top e; exact ax_ltL _
    · exact fun hl => by subst hl; intro H locs ls rest x y hz kk; obtain ⟨a, b2, z, e1, e2⟩ := hz; exact lv_lrem hx hb hd (ax_ne0 e1 e2) kk
  | lcmp => exact ax_lcp_ok X hd h hG
  | dup => exact ax_dup_ok X hd h hG
  | dup2 => exact ax_dup2_ok X hd h hG
  | pop => exact ax_pop_ok X hd h hG
  | ifCond k off =>
    have z0 : (0 : Int32).toInt = 0 := by decide
    cases k with
    | eq => exact ax_if1_ok (k := 0) (k2 := 1) (P := fun x => x = 0) (fun hl ht kt kf => by subst hl; exact lv_if_eq hx hb hd ht kt kf) (fun x e => by subst e; rfl) (fun x e => fun e2 => e (Int32.toInt_inj.mp e2)) h hG
    | ne => exact ax_if1_ok (k := 1) (k2 := 0) (P := fun x => ¬ x = 0) (fun hl ht kt kf => by subst hl; exact lv_if_ne hx hb hd ht kt (fun e9 => kf (fun h9 => h9 e9))) (fun x e => fun e2 => e (Int32.toInt_inj.mp e2)) (fun x e => by have e := Classical.byContradiction e; subst e; rfl) h hG
    | lt => exact ax_if1_ok (k := 2) (k2 := 3) (P := fun x => x < 0) (fun hl ht kt kf => by subst hl; exact lv_if_lt hx hb hd ht kt kf) (fun x e => Int32.lt_iff_toInt_lt.mp e) (fun x e => by rw [Int32.lt_iff_toInt_lt] at e; show (0 : Int32).toInt ≤ x.toInt; omega) h hG
    | ge => exact ax_if1_ok (k := 3) (k2 := 2) (P := fun x => 0 ≤ x) (fun hl ht kt kf => by subst hl; exact lv_if_ge hx hb hd ht kt kf) (fun x e => Int32.le_iff_toInt_le.mp e) (fun x e => by rw [Int32.le_iff_toInt_le] at e; show x.toInt < (0 : Int32).toInt; omega) h hG
    | gt => exact ax_if1_ok (k := 4) (k2 := 5) (P := fun x => 0 < x) (fun hl ht kt kf => by subst hl; exact lv_if_gt hx hb hd ht kt kf) (fun x e => Int32.lt_iff_toInt_lt.mp e) (fun x e => by rw [Int32.lt_iff_toInt_lt] at e; show x.toInt ≤ (0 : Int32).toInt; omega) h hG
    | le => exact ax_if1_ok (k := 5) (k2 := 4) (P := fun x => x ≤ 0) (fun hl ht kt kf => by subst hl; exact lv_if_le hx hb hd ht kt kf) (fun x e => Int32.le_iff_toInt_le.mp e) (fun x e => by rw [Int32.le_iff_toInt_le] at e; show (0 : Int32).toInt < x.toInt; omega) h hG
  | if_icmp k off =>
    cases k with
    | eq => exact ax_if2_ok (k := 0) (k2 := 1) (P := fun x y => x = y) (fun hl ht kt kf => by subst hl; exact lv_icmp_eq hx hb hd ht kt kf) (fun x y e => by subst e; rfl) (fun x y e => fun e2 => e (Int32.toInt_inj.mp e2)) h hG
    | ne => exact ax_if2_ok (k := 1) (k2 := 0) (P := fun x y => ¬ x = y) (fun hl ht kt kf => by subst hl; exact lv_icmp_ne hx hb hd ht kt (fun e9 => kf (fun h9 => h9 e9))) (fun x y e => fun e2 => e (Int32.toInt_inj.mp e2)) (fun x y e => by have e := Classical.byContradiction e; subst e; rfl) h hG
    | lt => exact ax_if2_ok (k := 2) (k2 := 3) (P := fun x y => x < y) (fun hl ht kt kf => by subst hl; exact lv_icmp_lt hx hb hd ht kt kf) (fun x y e => Int32.lt_iff_toInt_lt.mp e) (fun x y e => by rw [Int32.lt_iff_toInt_lt] at e; show y.toInt ≤ x.toInt; omega) h hG
    | ge => exact ax_if2_ok (k := 3) (k2 := 2) (P := fun x y => y ≤ x) (fun hl ht kt kf => by subst hl; exact lv_icmp_ge hx hb hd ht kt kf) (fun x y e => Int32.le_iff_toInt_le.mp e) (fun x y e => by rw [Int32.le_iff_toInt_le] at e; show x.toInt < y.toInt; omega) h hG
    | gt => exact ax_if2_ok (k := 4) (k2 := 5) (P := fun x y => y < x) (fun hl ht kt kf => by subst hl; exact lv_icmp_gt hx hb hd ht kt kf) (fun x y e => Int32.lt_iff_toInt_lt.mp e) (fun x y e => by rw [Int32.lt_iff_toInt_lt] at e; show x.toInt ≤ y.toInt; omega) h hG
    | le => exact ax_if2_ok (k := 5) (k2 := 4) (P := fun x y => x ≤ y) (fun hl ht kt kf => by subst hl; exact lv_icmp_le hx hb hd ht kt kf) (fun x y e => Int32.le_iff_toInt_le.mp e) (fun x y e => by rw [Int32.le_iff_toInt_le] at e; show y.toInt < x.toInt; omega) h hG
  | goto off => exact ax_goto_ok X hd h hG
  | ifnull off => exact ax_ifnull_ok X hd h hG
  | ifnonnull off => exact ax_ifnonnull_ok X hd h hG
  | tableswitch dd lo hi offs =>
    have h : (if -2147483648 ≤ lo ∧ lo ≤ 2147483647 ∧ -2147483648 ≤ hi ∧ hi ≤ 2147483647 then ax_sw dd lo hi offs pc lv st hp pr cn else none) = some out := h
    split at h
    · rename_i hl
      exact ax_sw_ok X hd hl h hG
    · cases h
  | getfield j => exact ax_gf_ok X hd h hG
  | putfield j => exact ax_pf_ok X hd h hG
  | iaload => exact ax_iald_ok X hd h hG
  | baload => exact ax_bald_ok X hd h hG
  | laload => exact ax_lald_ok X hd h hG
  | aaload => exact ax_aald_ok X hd h hG
  | iastore => exact ax_iast_ok X hd h hG
  | bastore => exact ax_bast_ok X hd h hG
  | lastore => exact ax_last_ok X hd h hG
  | aastore => exact ax_aast_ok X hd h hG
  | arraylength => exact ax_alen_ok X hd h hG
  | newarray t =>
    have z0 : (0 : Int32).toInt = 0 := by decide
    have z1 : (0 : Int64).toInt = 0 := by decide
    cases t with
    | int => exact ax_newa_ok (b0 := .inl (0, 0)) X hd rfl (ax_in _ ax_arr_int (by decide)) (by decide) (fun n => (n, .inl (fun _ => 0))) (fun _ => rfl) (fun _ _ => rfl) (fun n cA R tys t0 e => ⟨rfl, ⟨t0, e⟩, fun j _ => by rw [z0]; exact ⟨Int.le_refl _, Int.le_refl _⟩⟩) h hG
    | byte => exact ax_newa_ok (b0 := .inl (0, 0)) X hd rfl (ax_in _ ax_arr_byte (by decide)) (by decide) (fun n => (n, .inl (fun _ => 0))) (fun _ => rfl) (fun _ _ => rfl) (fun n cA R tys t0 e => ⟨rfl, ⟨t0, e⟩, fun j _ => by rw [z0]; exact ⟨Int.le_refl _, Int.le_refl _⟩⟩) h hG
    | boolean => exact ax_newa_ok (b0 := .inl (0, 0)) X hd rfl (ax_in _ ax_arr_boolean (by decide)) (by decide) (fun n => (n, .inl (fun _ => 0))) (fun _ => rfl) (fun _ _ => rfl) (fun n cA R tys t0 e => ⟨rfl, ⟨t0, e⟩, fun j _ => by rw [z0]; exact ⟨Int.le_refl _, Int.le_refl _⟩⟩) h hG
    | long => exact ax_newa_ok (b0 := .inr (.inl (0, 0))) X hd rfl (ax_in _ ax_arr_long (by decide)) (by decide) (fun n => (n, .inr (.inl (fun _ => 0)))) (fun _ => rfl) (fun _ _ => rfl) (fun n cA R tys t0 e => ⟨rfl, ⟨t0, e⟩, fun j _ => by rw [z1]; exact ⟨Int.le_refl _, Int.le_refl _⟩⟩) h hG
    | _ => cases h
  | anewarray j => exact ax_newq_ok X hd h hG
  | new j => exact ax_new_ok X hd h hG
  | invokevirtual j => exact ax_invk_ok (kd := 1) X hcon hd (by decide) h hG
  | invokestatic j => exact ax_stat_ok X hcon hd h hG
  | invokespecial j => exact ax_spec_ok X hcon hd h hG
  | _ => cases h
theorem ax_stp_ok (X : ax_X p R s m args meth c A b γ pv own ini nL L mc ms d cc xs) (hcon : ax_Con l call d) {S : ax_S} {out : List ax_S} (h : ax_stp own ini nL L mc ms cc call S = some out) (hG : ∀ S ∈ out, ax_G p l e R s m args below meth c Q D A b γ pv nL S) : ax_G p l e R s m args below meth c Q D A b γ pv nL S := by
  unfold ax_stp at h
  split at h
  · rename_i i len hd
    exact ax_op_ok X hcon hd h hG
  · cases h
theorem ax_run_ok (X : ax_X p R s m args meth c A b γ pv own ini nL L mc ms d cc xs) (hcon : ax_Con l call d) {fin : Nat → Bool} : ∀ (f : Nat) (work acc out : List ax_S), ax_run (ax_stp own ini nL L mc ms cc call) fin f work acc = some out → (∀ S ∈ out, ax_G p l e R s m args below meth c Q D A b γ pv nL S) → (∀ S ∈ work, ax_G p l e R s m args below meth c Q D A b γ pv nL S) ∧ ∀ S ∈ acc, S ∈ out
  | 0, _, _, _, h, _ => by cases h
  | f + 1, [], acc, out, h, _ => by
    unfold ax_run at h
    cases h
    exact ⟨fun _ h9 => absurd h9 List.not_mem_nil, fun _ h9 => h9⟩
  | f + 1, S :: r, acc, out, h, hG => by
    unfold ax_run at h
    split at h
    · obtain ⟨h1, h2⟩ := ax_run_ok X hcon f r (S :: acc) out h hG
      exact ⟨List.forall_mem_cons.mpr ⟨hG S (h2 S List.mem_cons_self), h1⟩, fun S2 h3 => h2 S2 (List.mem_cons_of_mem _ h3)⟩
    · split at h
      · cases h
      · rename_i l2 hs
        obtain ⟨h1, h2⟩ := ax_run_ok X hcon f (l2 ++ r) acc out h hG
        refine ⟨List.forall_mem_cons.mpr ⟨ax_stp_ok X hcon hs (fun S2 h3 => h1 S2 (List.mem_append_left _ h3)), fun S2 h3 => h1 S2 (List.mem_append_right _ h3)⟩, h2⟩
/-- every state that a run ends in was told to end there -/
theorem ax_run_fin {stp : ax_S → Option (List ax_S)} {fin : Nat → Bool} : ∀ (f : Nat) (work acc out : List ax_S), ax_run stp fin f work acc = some out → (∀ S ∈ acc, fin S.1 = true) → ∀ S ∈ out, fin S.1 = true
  | 0, _, _, _, h, _ => by cases h
  | f + 1, [], acc, out, h, ha => by
    unfold ax_run at h
    cases h
    exact ha
  | f + 1, S :: r, acc, out, h, ha => by
    unfold ax_run at h
    split at h
    · rename_i hf
      exact ax_run_fin f r (S :: acc) out h (List.forall_mem_cons.mpr ⟨hf, ha⟩)
    · split at h
      · cases h
      · exact ax_run_fin f _ acc out h ha
end AXE
