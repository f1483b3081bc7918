/-! ABSTRACT RUNS: an instruction by its kind, a run, a method -/
section AXU
def ax_dV : DecidableEq ax_V := inferInstance
def ax_dLV : DecidableEq (List ax_V) := @instDecidableEqList _ ax_dV
def ax_d4 : DecidableEq (Nat × List ax_V) := @instDecidableEqProd _ _ inferInstance ax_dLV
def ax_d5 : DecidableEq (ax_I ⊕ (ax_I ⊕ List (Option Nat))) := inferInstance
def ax_d6 : DecidableEq ((FieldType × Nat) × (ax_I ⊕ (ax_I ⊕ List (Option Nat)))) := @instDecidableEqProd _ _ inferInstance ax_d5
def ax_dC : DecidableEq ax_C := @instDecidableEqSum _ _ ax_d4 ax_d6
def ax_dLC : DecidableEq (List ax_C) := @instDecidableEqList _ ax_dC
def ax_sameR (o q : ax_R) : Bool := @decide (o.1.toList = q.1.toList) (ax_dLV _ _) && @decide (o.2.2 = q.2.2) (ax_dLC _ _)
/-- ends that answer alike, with the same cells, are one -/
def ax_mg (mi : Nat) (as : List ax_V) (outs : List ax_R) : List ax_R := if ax_mgl.contains mi = true then (match outs with
  | o :: r => if r.all (fun q => ax_sameR o q) = true then [(o.1, as, o.2.2)] else outs
  | [] => []) else outs
def ax_op (own : Nat) (ini : Bool) (nL L mc ms : Nat) (call : ax_F) (i : Instr) (len pc : Nat) (lv : ax_L) (st : ax_K) (hp : List ax_C) (pr : List ax_V) (cn : Nat × Nat) : Option (List ax_S) := match i with
  | .iconst v => ax_push (ax_c32 (Int32.ofInt v)) 1 len pc lv st hp pr cn
  | .bipush v => ax_push (ax_c32 (Int8.ofInt v).toInt32) 2 len pc lv st hp pr cn
  | .sipush v => ax_push (ax_c32 (Int16.ofInt v).toInt32) 3 len pc lv st hp pr cn
  | .lconst v => ax_push (.inr (.inl ((Int64.ofNat v).toInt, (Int64.ofNat v).toInt))) 1 len pc lv st hp pr cn
  | .aconst_null => ax_push (.inr (.inr none)) 1 len pc lv st hp pr cn
  | .ldc j => ax_ldc own j len pc lv st hp pr cn
  | .ldc_w j => ax_ldcw own j len pc lv st hp pr cn
  | .ldc2_w j => ax_ldc2 own j len pc lv st hp pr cn
  | .iload_n j => ax_ld 0 j 1 len pc lv st hp pr cn
  | .iload j => ax_ld 0 j 2 len pc lv st hp pr cn
  | .lload_n j => ax_ld 1 j 1 len pc lv st hp pr cn
  | .lload j => ax_ld 1 j 2 len pc lv st hp pr cn
  | .aload_n j => ax_ld 2 j 1 len pc lv st hp pr cn
  | .aload j => ax_ld 2 j 2 len pc lv st hp pr cn
  | .istore_n j => ax_st 0 nL j 1 len pc lv st hp pr cn
  | .istore j => ax_st 0 nL j 2 len pc lv st hp pr cn
  | .lstore_n j => ax_st 1 nL j 1 len pc lv st hp pr cn
  | .lstore j => ax_st 1 nL j 2 len pc lv st hp pr cn
  | .astore_n j => ax_st 2 nL j 1 len pc lv st hp pr cn
  | .astore j => ax_st 2 nL j 2 len pc lv st hp pr cn
  | .iinc j v => ax_iinc nL j v len pc lv st hp pr cn
  | .iadd => ax_ii (fun a b => some (ax_add a b)) len pc lv st hp pr cn
  | .isub => ax_ii (fun a b => some (ax_sub a b)) len pc lv st hp pr cn
  | .imul => ax_ii (fun a b => some (ax_mul a b)) len pc lv st hp pr cn
  | .idiv => ax_ii ax_div len pc lv st hp pr cn
  | .irem => ax_ii ax_rem len pc lv st hp pr cn
  | .iand => ax_ii (fun a b => some (ax_and a b)) len pc lv st hp pr cn
  | .ior => ax_ii (fun _ _ => some ax_topN) len pc lv st hp pr cn
  | .ixor => ax_ii (fun _ _ => some ax_topN) len pc lv st hp pr cn
  | .ishl => ax_ii (fun _ _ => some ax_topN) len pc lv st hp pr cn
  | .ishr => ax_ii (fun _ _ => some ax_topN) len pc lv st hp pr cn
  | .iushr => ax_ii (fun _ _ => some ax_topN) len pc lv st hp pr cn
  | .ineg => ax_ineg len pc lv st hp pr cn
  | .i2l => ax_i2l len pc lv st hp pr cn
  | .l2i => ax_l2i len pc lv st hp pr cn
  | .i2b => ax_i2b len pc lv st hp pr cn
  | .ladd => ax_ll (fun _ _ => some ax_topL) len pc lv st hp pr cn
  | .lsub => ax_ll (fun _ _ => some ax_topL) len pc lv st hp pr cn
  | .lmul => ax_ll (fun _ _ => some ax_topL) len pc lv st hp pr cn
  | .ldiv => ax_ll ax_ldiv len pc lv st hp pr cn
  | .lrem => ax_ll ax_ldiv len pc lv st hp pr cn
  | .lcmp => ax_lcp len pc lv st hp pr cn
  | .dup => ax_dup len pc lv st hp pr cn
  | .dup2 => ax_dup2 len pc lv st hp pr cn
  | .pop => ax_pop len pc lv st hp pr cn
  | .ifCond .eq off => ax_if1 0 1 off len pc lv st hp pr cn
  | .ifCond .ne off => ax_if1 1 0 off len pc lv st hp pr cn
  | .ifCond .lt off => ax_if1 2 3 off len pc lv st hp pr cn
  | .ifCond .ge off => ax_if1 3 2 off len pc lv st hp pr cn
  | .ifCond .gt off => ax_if1 4 5 off len pc lv st hp pr cn
  | .ifCond .le off => ax_if1 5 4 off len pc lv st hp pr cn
  | .if_icmp .eq off => ax_if2 0 1 off len pc lv st hp pr cn
  | .if_icmp .ne off => ax_if2 1 0 off len pc lv st hp pr cn
  | .if_icmp .lt off => ax_if2 2 3 off len pc lv st hp pr cn
  | .if_icmp .ge off => ax_if2 3 2 off len pc lv st hp pr cn
  | .if_icmp .gt off => ax_if2 4 5 off len pc lv st hp pr cn
  | .if_icmp .le off => ax_if2 5 4 off len pc lv st hp pr cn
  | .goto off => ax_goto off len pc lv st hp pr cn
  | .ifnull off => ax_nul true off len pc lv st hp pr cn
  | .ifnonnull off => ax_nul false off len pc lv st hp pr cn
  | .tableswitch d lo hi offs => if -2147483648 ≤ lo ∧ lo ≤ 2147483647 ∧ -2147483648 ≤ hi ∧ hi ≤ 2147483647 then ax_sw d lo hi offs pc lv st hp pr cn else none
  | .getfield j => ax_gf own j len pc lv st hp pr cn
  | .putfield j => ax_pf own ini j len pc lv st hp pr cn
  | .iaload => ax_iald L len pc lv st hp pr cn
  | .baload => ax_xld [.byte, .boolean] len pc lv st hp pr cn
  | .laload => ax_lald len pc lv st hp pr cn
  | .aaload => ax_aald len pc lv st hp pr cn
  | .iastore => ax_xst [.int] len pc lv st hp pr cn
  | .bastore => ax_xst [.byte, .boolean] len pc lv st hp pr cn
  | .lastore => ax_last len pc lv st hp pr cn
  | .aastore => ax_aast len pc lv st hp pr cn
  | .arraylength => ax_alen L len pc lv st hp pr cn
  | .newarray .int => ax_newa .int (.inl (0, 0)) mc ms len pc lv st hp pr cn
  | .newarray .byte => ax_newa .byte (.inl (0, 0)) mc ms len pc lv st hp pr cn
  | .newarray .boolean => ax_newa .boolean (.inl (0, 0)) mc ms len pc lv st hp pr cn
  | .newarray .long => ax_newa .long (.inr (.inl (0, 0))) mc ms len pc lv st hp pr cn
  | .anewarray j => ax_newq own j mc ms len pc lv st hp pr cn
  | .new j => ax_new own j mc ms len pc lv st hp pr cn
  | .invokevirtual j => ax_invk call own 1 j mc ms len pc lv st hp pr cn
  | .invokestatic j => ax_stat call own j mc ms len pc lv st hp pr cn
  | .invokespecial j => ax_spec call own j mc ms len pc lv st hp pr cn
  | _ => none
def ax_stp (own : Nat) (ini : Bool) (nL L mc ms : Nat) (cc : ByteArray) (call : ax_F) (S : ax_S) : Option (List ax_S) := match decode cc S.1 with
  | .ok (i, len) => ax_op own ini nL L mc ms call i len S.1 S.2.1 S.2.2.1 S.2.2.2.1 S.2.2.2.2.1 S.2.2.2.2.2
  | .error _ => none
def ax_run (stp : ax_S → Option (List ax_S)) (fin : Nat → Bool) : Nat → List ax_S → List ax_S → Option (List ax_S)
  | 0, _, _ => none
  | _ + 1, [], acc => some acc
  | f + 1, S :: r, acc => if fin S.1 = true then ax_run stp fin f r (S :: acc) else match stp S with
    | none => none
    | some l => ax_run stp fin f (l ++ r) acc
def ax_fin (cc : ByteArray) (pc : Nat) : Bool := match decode cc pc with
  | .ok (.ireturn, 1) => true
  | .ok (.lreturn, 1) => true
  | .ok (.areturn, 1) => true
  | .ok (.return_, 1) => true
  | _ => false
/-- the places of a world of n cells, as references -/
def ax_pl (n : Nat) : List ax_V := (List.range n).map (fun k => .inr (.inr (some (k + 1))))
/-- what a method gives back, where a run of it ended: its answer, what is known of its arguments (na), the cells; those that were there (nh) keep their places -/
def ax_out (cc : ByteArray) (ret : Option FieldType) (na nh mc ms : Nat) (S : ax_S) : Option ax_R := if S.2.2.2.2.2.1 ≤ mc ∧ S.2.2.2.2.2.2 ≤ ms ∧ S.2.2.2.2.1.drop na = ax_pl nh then (match decode cc S.1, ret, S.2.2.1 with
  | .ok (.return_, 1), none, [] => some (none, S.2.2.2.2.1.take na, S.2.2.2.1)
  | .ok (.ireturn, 1), some .int, [(.inl a, _)] => some (some (.inl a), S.2.2.2.2.1.take na, S.2.2.2.1)
  | .ok (.ireturn, 1), some .boolean, [(.inl a, _)] => if 0 ≤ a.1.1 ∧ a.1.2 ≤ 1 then some (some (.inl a), S.2.2.2.2.1.take na, S.2.2.2.1) else none
  | .ok (.lreturn, 1), some .long, [(.inr (.inl a), _)] => some (some (.inr (.inl a)), S.2.2.2.2.1.take na, S.2.2.2.1)
  | .ok (.areturn, 1), some (.object _), [(.inr (.inr a), _)] => some (some (.inr (.inr a)), S.2.2.2.2.1.take na, S.2.2.2.1)
  | _, _, _ => none) else none
def ax_mapO {α β : Type} (f : α → Option β) : List α → Option (List β)
  | [] => some []
  | a :: r => match f a, ax_mapO f r with
    | some b, some l => some (b :: l)
    | _, _ => none
def ax_ent : Nat → Nat → List ax_V → ax_L
  | _, _, [] => []
  | i, j, a :: r => (i, (a, some j)) :: ax_ent (if ax_cat a = 2 then i + 2 else i + 1) (j + 1) r
def ax_slots (as : List ax_V) : Nat := (as.map ax_cat).sum
def ax_meth : Nat → ax_F
  | 0, _, _, _ => none
  | d + 1, mi, as, hp => match ax_tab[mi]? with
    | none => none
    | some t => if ax_slots as ≤ t.2.2.1 then
        match ax_run (ax_stp t.2.2.2.2.1.1 (decide (t.2.2.2.2.1.2 = 2)) t.2.2.1 0 t.2.2.2.2.2.2.1 t.2.2.2.2.2.2.2 t.2.1 (ax_meth d)) (ax_fin t.2.1) 4000 [(0, ax_ent 0 0 as, [], hp, as ++ ax_pl hp.length, (0, 0))] [] with
        | some l => match ax_mapO (ax_out t.2.1 t.2.2.2.1 as.length hp.length t.2.2.2.2.2.2.1 t.2.2.2.2.2.2.2) l with
          | some outs => some (ax_mg mi as outs)
          | none => none
        | none => none
      else none
end AXU
