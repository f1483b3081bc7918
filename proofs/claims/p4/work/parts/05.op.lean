/-! ABSTRACT RUNS: one instruction, one method -/
section AXQ
def ax_cat (a : ax_V) : Nat := match a with
  | .inr (.inl _) => 2
  | _ => 1
def ax_put1 (i : Nat) (a : ax_V) (lv : ax_L) : ax_L := (i, (a, none)) :: lv.filter (fun q => !(q.1 == i) && !(q.1 + 1 == i && ax_cat q.2.1 == 2))
def ax_put2 (i : Nat) (a : ax_V) (lv : ax_L) : ax_L := (i, (a, none)) :: lv.filter (fun q => !(q.1 == i) && (!(q.1 == i + 1) && !(q.1 + 1 == i && ax_cat q.2.1 == 2)))
/-- origins in locals are forgotten (a local is written) -/
def ax_nolo (o : ax_O) : ax_O := match o with
  | some (.inl _) => none
  | o => o
def ax_nol (st : ax_K) : ax_K := st.map (fun q => (q.1, ax_nolo q.2))
/-- origins in fields are forgotten (a field is written, a method is called) -/
def ax_nofo (o : ax_O) : ax_O := match o with
  | some (.inr (.inl _)) => none
  | o => o
def ax_nof (st : ax_K) : ax_K := st.map (fun q => (q.1, ax_nofo q.2))
def ax_bnd (iv : ax_I) (a : ax_V) : ax_V := match a with
  | .inl n => .inl ((max iv.1 n.1.1, min iv.2 n.1.2), n.2)
  | a => a
def ax_lvup (i : Nat) (iv : ax_I) : ax_L → ax_L
  | [] => []
  | q :: r => if q.1 = i then (q.1, (ax_bnd iv q.2.1, q.2.2)) :: r else q :: ax_lvup i iv r
def ax_upd {α : Type} (l : List α) (k : Nat) (f : α → α) : List α := match l[k]? with
  | some a => l.set k (f a)
  | none => l
def ax_fup (k : Nat) (iv : ax_I) (c : ax_C) : ax_C := match c with
  | .inl (ci, fs) => .inl (ci, ax_upd fs k (ax_bnd iv))
  | c => c
/-- what is now known of a value goes back to where it was read -/
def ax_ref (o : ax_O) (iv : ax_I) (w : ax_L × (List ax_C × List ax_V)) : ax_L × (List ax_C × List ax_V) := match o with
  | none => w
  | some (.inl i) => match ax_get i w.1 with
    | some (_, some j) => (ax_lvup i iv w.1, w.2.1, ax_upd w.2.2 j (ax_bnd iv))
    | _ => (ax_lvup i iv w.1, w.2.1, w.2.2)
  | some (.inr (.inl (q, k))) => (w.1, ax_upd w.2.1 q (ax_fup k iv), w.2.2)
  | some (.inr (.inr j)) => (w.1, w.2.1, ax_upd w.2.2 j (ax_bnd iv))

/-- the bounds behind a comparison: 0 eq, 1 ne, 2 lt, 3 ge, 4 gt, 5 le; none: it can't be -/
def ax_ne1 (a b : ax_I) : ax_I := if b.1 = b.2 then (if a.1 = b.1 then (a.1 + 1, a.2) else if a.2 = b.1 then (a.1, a.2 - 1) else a) else a
def ax_rel2 (k : Nat) (a b : ax_I) : ax_I × ax_I := match k with
  | 0 => ((max a.1 b.1, min a.2 b.2), (max a.1 b.1, min a.2 b.2))
  | 1 => (ax_ne1 a b, ax_ne1 b a)
  | 2 => ((a.1, min a.2 (b.2 - 1)), (max b.1 (a.1 + 1), b.2))
  | 3 => ((max a.1 b.1, a.2), (b.1, min b.2 a.2))
  | 4 => ((max a.1 (b.1 + 1), a.2), (b.1, min b.2 (a.2 - 1)))
  | _ => ((a.1, min a.2 b.2), (max b.1 a.1, b.2))
def ax_rel (k : Nat) (a b : ax_I) : Option (ax_I × ax_I) := if (ax_rel2 k a b).1.1 ≤ (ax_rel2 k a b).1.2 ∧ (ax_rel2 k a b).2.1 ≤ (ax_rel2 k a b).2.2 then some (ax_rel2 k a b) else none
def ax_br (k : Nat) (a b : ax_I) (oa ob : ax_O) (pc : Nat) (lv : ax_L) (st : ax_K) (hp : List ax_C) (pr : List ax_V) (cn : Nat × Nat) : List ax_S := match ax_rel k a b with
  | none => []
  | some iv => [(pc, (ax_ref ob iv.2 (ax_ref oa iv.1 (lv, hp, pr))).1, st, (ax_ref ob iv.2 (ax_ref oa iv.1 (lv, hp, pr))).2.1, (ax_ref ob iv.2 (ax_ref oa iv.1 (lv, hp, pr))).2.2, cn)]
def ax_tgt (pc : Nat) (off : Int) : Option Nat := if 0 ≤ (pc : Int) + off then some ((pc : Int) + off).toNat else none
/-- a branch on x ? y, the condition k, its contrary k2 -/
def ax_if (k k2 : Nat) (a b : ax_I) (oa ob : ax_O) (off : Int) (len pc : Nat) (lv : ax_L) (st : ax_K) (hp : List ax_C) (pr : List ax_V) (cn : Nat × Nat) : Option (List ax_S) := match ax_tgt pc off with
  | none => none
  | some t => if len = 3 then some (ax_br k a b oa ob t lv st hp pr cn ++ ax_br k2 a b oa ob (pc + 3) lv st hp pr cn) else none
def ax_if1 (k k2 : Nat) (off : Int) (len pc : Nat) (lv : ax_L) (st : ax_K) (hp : List ax_C) (pr : List ax_V) (cn : Nat × Nat) : Option (List ax_S) := match st with
  | (.inl a, oa) :: r => ax_if k k2 a.1 (0, 0) oa none off len pc lv r hp pr cn
  | _ => none
def ax_if2 (k k2 : Nat) (off : Int) (len pc : Nat) (lv : ax_L) (st : ax_K) (hp : List ax_C) (pr : List ax_V) (cn : Nat × Nat) : Option (List ax_S) := match st with
  | (.inl b, ob) :: (.inl a, oa) :: r => ax_if k k2 a.1 b.1 oa ob off len pc lv r hp pr cn
  | _ => none
def ax_ld (kd : Nat) (i len0 len pc : Nat) (lv : ax_L) (st : ax_K) (hp : List ax_C) (pr : List ax_V) (cn : Nat × Nat) : Option (List ax_S) := match ax_get i lv with
  | some (.inl a, _) => if kd = 0 ∧ len = len0 then some [(pc + len0, lv, (.inl a, some (.inl i)) :: st, hp, pr, cn)] else none
  | some (.inr (.inl a), _) => if kd = 1 ∧ len = len0 then some [(pc + len0, lv, (.inr (.inl a), none) :: st, hp, pr, cn)] else none
  | some (.inr (.inr a), _) => if kd = 2 ∧ len = len0 then some [(pc + len0, lv, (.inr (.inr a), none) :: st, hp, pr, cn)] else none
  | none => none
def ax_st (kd nL : Nat) (i len0 len pc : Nat) (lv : ax_L) (st : ax_K) (hp : List ax_C) (pr : List ax_V) (cn : Nat × Nat) : Option (List ax_S) := match st with
  | (.inl a, _) :: r => if kd = 0 ∧ len = len0 ∧ i < nL then some [(pc + len0, ax_put1 i (.inl a) lv, ax_nol r, hp, pr, cn)] else none
  | (.inr (.inl a), _) :: r => if kd = 1 ∧ len = len0 ∧ i + 1 < nL then some [(pc + len0, ax_put2 i (.inr (.inl a)) lv, ax_nol r, hp, pr, cn)] else none
  | (.inr (.inr a), _) :: r => if kd = 2 ∧ len = len0 ∧ i < nL then some [(pc + len0, ax_put1 i (.inr (.inr a)) lv, ax_nol r, hp, pr, cn)] else none
  | [] => none
def ax_ii (f : ax_N → ax_N → Option ax_N) (len pc : Nat) (lv : ax_L) (st : ax_K) (hp : List ax_C) (pr : List ax_V) (cn : Nat × Nat) : Option (List ax_S) := match st with
  | (.inl b, _) :: (.inl a, _) :: r => match f a b with
    | some z => if len = 1 then some [(pc + 1, lv, (.inl z, none) :: r, hp, pr, cn)] else none
    | none => none
  | _ => none
def ax_ll (f : ax_I → ax_I → Option ax_I) (len pc : Nat) (lv : ax_L) (st : ax_K) (hp : List ax_C) (pr : List ax_V) (cn : Nat × Nat) : Option (List ax_S) := match st with
  | (.inr (.inl b), _) :: (.inr (.inl a), _) :: r => match f a b with
    | some z => if len = 1 then some [(pc + 1, lv, (.inr (.inl z), none) :: r, hp, pr, cn)] else none
    | none => none
  | _ => none
def ax_push (v : ax_V) (len0 len pc : Nat) (lv : ax_L) (st : ax_K) (hp : List ax_C) (pr : List ax_V) (cn : Nat × Nat) : Option (List ax_S) := if len = len0 then some [(pc + len0, lv, (v, none) :: st, hp, pr, cn)] else none
def ax_lcmp (a b : ax_I) : ax_N := if a.2 < b.1 then ((-1, -1), none) else if b.2 < a.1 then ((1, 1), none) else if a.1 = a.2 ∧ b.1 = b.2 ∧ a.1 = b.1 then ((0, 0), none) else ((-1, 1), none)
def ax_hull (a b : ax_I) : ax_I := (min a.1 b.1, max a.2 b.2)
def ax_ldiv (_ b : ax_I) : Option ax_I := if 0 < b.1 ∨ b.2 < 0 then some ax_topL else none
/-- a cell of numbers at place k (k + 1 as a reference): its type, length, bounds -/
def ax_nums (hp : List ax_C) (k : Nat) : Option (FieldType × (Nat × ax_I)) := match k with
  | 0 => none
  | k + 1 => match hp[k]? with
    | some (.inr ((ty, n), .inl iv)) => some (ty, n, iv)
    | _ => none
def ax_ain (a : ax_N) (n : Nat) : Bool := decide (0 ≤ a.1.1) && decide (a.1.2 < n)
def ax_xld (ts : List FieldType) (len pc : Nat) (lv : ax_L) (st : ax_K) (hp : List ax_C) (pr : List ax_V) (cn : Nat × Nat) : Option (List ax_S) := match st with
  | (.inl a, _) :: (.inr (.inr (some k)), _) :: r => match ax_nums hp k with
    | some (ty, n, iv) => if ax_ain a n = true ∧ ty ∈ ts ∧ len = 1 then some [(pc + 1, lv, (.inl (iv, none), none) :: r, hp, pr, cn)] else none
    | none => none
  | _ => none
/-- an int of the script, named by the block's first place (the named number 0) -/
def ax_sld (L : Nat) (len pc : Nat) (lv : ax_L) (st : ax_K) (hp : List ax_C) (pr : List ax_V) (cn : Nat × Nat) : Option (List ax_S) := match st with
  | (.inl a, _) :: (.inr (.inr (some 0)), _) :: r => match a.2 with
    | some (0, .ofNat j) => match pr[j]? with
      | some (.inl v) => if ax_ain a (L - 1) = true ∧ len = 1 then some [(pc + 1, lv, (.inl v, some (.inr (.inr j))) :: r, hp, pr, cn)] else none
      | _ => none
    | _ => none
  | _ => none
def ax_iald (L : Nat) (len pc : Nat) (lv : ax_L) (st : ax_K) (hp : List ax_C) (pr : List ax_V) (cn : Nat × Nat) : Option (List ax_S) := match st with
  | _ :: (.inr (.inr (some 0)), _) :: _ => ax_sld L len pc lv st hp pr cn
  | _ => ax_xld [.int] len pc lv st hp pr cn
def ax_lald (len pc : Nat) (lv : ax_L) (st : ax_K) (hp : List ax_C) (pr : List ax_V) (cn : Nat × Nat) : Option (List ax_S) := match st with
  | (.inl a, _) :: (.inr (.inr (some (k + 1))), _) :: r => match hp[k]? with
    | some (.inr ((.long, n), .inr (.inl iv))) => if ax_ain a n = true ∧ len = 1 then some [(pc + 1, lv, (.inr (.inl iv), none) :: r, hp, pr, cn)] else none
    | _ => none
  | _ => none
/-- every reference that the array holds from place j on, f of them -/
def ax_alds (rs : List (Option Nat)) (oa : ax_O) (pc : Nat) (lv : ax_L) (r : ax_K) (hp : List ax_C) (pr : List ax_V) (cn : Nat × Nat) : Nat → Nat → Option (List ax_S)
  | 0, _ => some []
  | f + 1, j => match rs[j]?, ax_alds rs oa pc lv r hp pr cn f (j + 1) with
    | some x, some l => some ((pc, (ax_ref oa ((j : Int), (j : Int)) (lv, hp, pr)).1, (.inr (.inr x), none) :: r, (ax_ref oa ((j : Int), (j : Int)) (lv, hp, pr)).2.1, (ax_ref oa ((j : Int), (j : Int)) (lv, hp, pr)).2.2, cn) :: l)
    | _, _ => none
def ax_aald (len pc : Nat) (lv : ax_L) (st : ax_K) (hp : List ax_C) (pr : List ax_V) (cn : Nat × Nat) : Option (List ax_S) := match st with
  | (.inl a, oa) :: (.inr (.inr (some (k + 1))), _) :: r => match hp[k]? with
    | some (.inr ((.object _, n), .inr (.inr rs))) => if ax_ain a n = true ∧ len = 1 then ax_alds rs oa (pc + 1) lv r hp pr cn (a.1.2 - a.1.1 + 1).toNat a.1.1.toNat else none
    | _ => none
  | _ => none
def ax_nar (ty : FieldType) (v : ax_I) : ax_I := match ty with
  | .byte => if -128 ≤ v.1 ∧ v.2 ≤ 127 then v else (-128, 127)
  | .boolean => if 0 ≤ v.1 ∧ v.2 ≤ 1 then v else (0, 1)
  | _ => v
def ax_xst (ts : List FieldType) (len pc : Nat) (lv : ax_L) (st : ax_K) (hp : List ax_C) (pr : List ax_V) (cn : Nat × Nat) : Option (List ax_S) := match st with
  | (.inl v, _) :: (.inl a, _) :: (.inr (.inr (some k)), _) :: r => match ax_nums hp k with
    | some (ty, n, iv) => if ax_ain a n = true ∧ ty ∈ ts ∧ len = 1 then some [(pc + 1, lv, ax_nof r, hp.set (k - 1) (.inr ((ty, n), .inl (ax_hull iv (ax_nar ty v.1)))), pr, cn)] else none
    | none => none
  | _ => none
def ax_last (len pc : Nat) (lv : ax_L) (st : ax_K) (hp : List ax_C) (pr : List ax_V) (cn : Nat × Nat) : Option (List ax_S) := match st with
  | (.inr (.inl v), _) :: (.inl a, _) :: (.inr (.inr (some (k + 1))), _) :: r => match hp[k]? with
    | some (.inr ((.long, n), .inr (.inl iv))) => if ax_ain a n = true ∧ len = 1 then some [(pc + 1, lv, ax_nof r, hp.set k (.inr ((.long, n), .inr (.inl (ax_hull iv v)))), pr, cn)] else none
    | _ => none
  | _ => none
def ax_aast (len pc : Nat) (lv : ax_L) (st : ax_K) (hp : List ax_C) (pr : List ax_V) (cn : Nat × Nat) : Option (List ax_S) := match st with
  | (.inr (.inr (some (v + 1))), _) :: (.inl a, _) :: (.inr (.inr (some (k + 1))), _) :: r => match hp[k]?, hp[v]? with
    | some (.inr ((.object C, n), .inr (.inr rs))), some (.inl (ci, _)) => if ax_ain a n = true ∧ a.1.1 = a.1.2 ∧ (vwCl[ci]?).map (fun q => q.1) = some C ∧ len = 1 then some [(pc + 1, lv, ax_nof r, hp.set k (.inr ((.object C, n), .inr (.inr (rs.set a.1.1.toNat (some (v + 1)))))), pr, cn)] else none
    | _, _ => none
  | _ => none
def ax_alen (L : Nat) (len pc : Nat) (lv : ax_L) (st : ax_K) (hp : List ax_C) (pr : List ax_V) (cn : Nat × Nat) : Option (List ax_S) := match st with
  | (.inr (.inr (some 0)), _) :: r => if len = 1 ∧ 0 < L ∧ L < 2147483648 then some [(pc + 1, lv, (.inl ((((L - 1 : Nat) : Int), ((L - 1 : Nat) : Int)), none), none) :: r, hp, pr, cn)] else none
  | (.inr (.inr (some (k + 1))), _) :: r => match hp[k]? with
    | some (.inr ((_, n), _)) => if len = 1 ∧ n < 2147483648 then some [(pc + 1, lv, (.inl (((n : Int), (n : Int)), none), none) :: r, hp, pr, cn)] else none
    | _ => none
  | _ => none
def ax_fld (o i : Nat) : Option (Nat × (Nat × Nat)) := ax_get i (ax_ft o)
def ax_gf (own i : Nat) (len pc : Nat) (lv : ax_L) (st : ax_K) (hp : List ax_C) (pr : List ax_V) (cn : Nat × Nat) : Option (List ax_S) := match st with
  | (.inr (.inr (some (q + 1))), _) :: r => match ax_fld own i, hp[q]? with
    | some (ci, k, _), some (.inl (cj, fs)) => match fs[k]? with
      | some v => if ci = cj ∧ len = 3 then some [(pc + 3, lv, (v, some (.inr (.inl (q, k)))) :: r, hp, pr, cn)] else none
      | none => none
    | _, _ => none
  | _ => none
def ax_fits (ty : FieldType) (v : ax_V) : Bool := match ty, v with
  | .int, .inl _ => true
  | .boolean, .inl a => decide (0 ≤ a.1.1) && decide (a.1.2 ≤ 1)
  | .long, .inr (.inl _) => true
  | .object _, .inr (.inr _) => true
  | .array _, .inr (.inr _) => true
  | _, _ => false
/-- the field's class, and whether it is final: then only its own class's constructor writes it -/
def ax_wr (own ci k : Nat) (ini : Bool) : Bool := match vwCl[ci]? with
  | some (_, T, _) => if (T k).2.2.2 = true then ini && decide ((T k).1 = ax_nm own) else true
  | none => false
def ax_pf (own : Nat) (ini : Bool) (i : Nat) (len pc : Nat) (lv : ax_L) (st : ax_K) (hp : List ax_C) (pr : List ax_V) (cn : Nat × Nat) : Option (List ax_S) := match st with
  | (v, _) :: (.inr (.inr (some (q + 1))), _) :: r => match ax_fld own i, hp[q]? with
    | some (ci, k, _), some (.inl (cj, fs)) => if ci = cj ∧ k < fs.length ∧ ax_fits (ax_tyOf ci k) v = true ∧ ax_wr own ci k ini = true ∧ len = 3 then some [(pc + 3, lv, ax_nof r, hp.set q (.inl (cj, fs.set k v)), pr, cn)] else none
    | _, _ => none
  | _ => none
def ax_dv (ty : FieldType) : ax_V := match ty with
  | .long => .inr (.inl (0, 0))
  | .object _ => .inr (.inr none)
  | .array _ => .inr (.inr none)
  | _ => .inl ((0, 0), none)
def ax_dok (ty : FieldType) : Bool := match ty with
  | .float => false
  | .double => false
  | _ => true
def ax_dfl (ci N : Nat) : List ax_V := (List.range N).map (fun j => ax_dv (ax_tyOf ci j))
def ax_cnf (o i : Nat) : Option (Nat × (Nat × (Nat × (Nat × (Nat × Nat))))) := ax_cn.find? (fun e => e.1 == o && e.2.1 == i)
def ax_new (own i mc ms : Nat) (len pc : Nat) (lv : ax_L) (st : ax_K) (hp : List ax_C) (pr : List ax_V) (cn : Nat × Nat) : Option (List ax_S) := match ax_cnf own i with
  | some (_, _, ci, _) => match vwCl[ci]? with
    | some (_, _, N) => if (List.range N).all (fun j => ax_dok (ax_tyOf ci j)) = true ∧ cn.1 + 1 ≤ mc ∧ cn.2 + N ≤ ms ∧ len = 3 then some [(pc + 3, lv, (.inr (.inr (some (hp.length + 1))), none) :: st, hp ++ [.inl (ci, ax_dfl ci N)], pr, (cn.1 + 1, cn.2 + N))] else none
    | none => none
  | none => none
def ax_newa (ty : FieldType) (b0 : ax_I ⊕ (ax_I ⊕ List (Option Nat))) (mc ms : Nat) (len pc : Nat) (lv : ax_L) (st : ax_K) (hp : List ax_C) (pr : List ax_V) (cn : Nat × Nat) : Option (List ax_S) := match st with
  | (.inl ((.ofNat n, m), _), _) :: r => if m = .ofNat n ∧ n ≤ 1000000 ∧ cn.1 + 1 ≤ mc ∧ cn.2 + n ≤ ms ∧ len = 2 then some [(pc + 2, lv, (.inr (.inr (some (hp.length + 1))), none) :: r, hp ++ [.inr ((ty, n), b0)], pr, (cn.1 + 1, cn.2 + n))] else none
  | _ => none
def ax_newq (own i mc ms : Nat) (len pc : Nat) (lv : ax_L) (st : ax_K) (hp : List ax_C) (pr : List ax_V) (cn : Nat × Nat) : Option (List ax_S) := match st with
  | (.inl ((.ofNat n, m), _), _) :: r => match ax_cnf own i with
    | some (_, _, ci, _) => if ci = 3 ∧ m = .ofNat n ∧ n ≤ 1000000 ∧ cn.1 + 1 ≤ mc ∧ cn.2 + n ≤ ms ∧ len = 3 then some [(pc + 3, lv, (.inr (.inr (some (hp.length + 1))), none) :: r, hp ++ [.inr ((.object RX4, n), .inr (.inr (List.replicate n none)))], pr, (cn.1 + 1, cn.2 + n))] else none
    | none => none
  | _ => none
/-- the cases of a switch from j on, f of them -/
def ax_sws (offs : List Int) (lo : Int) (a : ax_I) (oa : ax_O) (pc : Nat) (lv : ax_L) (r : ax_K) (hp : List ax_C) (pr : List ax_V) (cn : Nat × Nat) : Nat → Nat → Option (List ax_S)
  | 0, _ => some []
  | f + 1, j => match offs[j]?, ax_sws offs lo a oa pc lv r hp pr cn f (j + 1) with
    | some off, some l => match ax_tgt pc off with
      | some t => some (ax_br 0 a (lo + j, lo + j) oa none t lv r hp pr cn ++ l)
      | none => none
    | _, _ => none
def ax_sw (dflt lo hi : Int) (offs : Array Int) (pc : Nat) (lv : ax_L) (st : ax_K) (hp : List ax_C) (pr : List ax_V) (cn : Nat × Nat) : Option (List ax_S) := match st with
  | (.inl a, oa) :: r => match ax_sws offs.toList lo a.1 oa pc lv r hp pr cn (hi - lo + 1).toNat 0, ax_tgt pc dflt with
    | some l, some t => some (l ++ (ax_br 2 a.1 (lo, lo) oa none t lv r hp pr cn ++ ax_br 4 a.1 (hi, hi) oa none t lv r hp pr cn))
    | _, _ => none
  | _ => none
/-- arguments and what the callee found out of them go back to where they were read -/
def ax_back : List ((ax_V × ax_O) × ax_V) → ax_L × (List ax_C × List ax_V) → ax_L × (List ax_C × List ax_V)
  | [], w => w
  | ((_, o), .inl n) :: r, w => ax_back r (ax_ref (ax_nofo o) n.1 w)
  | _ :: r, w => ax_back r w
def ax_res (pc : Nat) (lv : ax_L) (as rest : ax_K) (pr : List ax_V) (cn : Nat × Nat) (o : ax_R) : ax_S :=
  (pc, (ax_back (as.zip o.2.1) (lv, o.2.2, pr)).1, (match o.1 with | some v => (v, none) :: ax_nof rest | none => ax_nof rest), (ax_back (as.zip o.2.1) (lv, o.2.2, pr)).2.1, (ax_back (as.zip o.2.1) (lv, o.2.2, pr)).2.2, cn)
abbrev ax_F : Type := Nat → List ax_V → List ax_C → Option (List ax_R)
def ax_words (st : ax_K) : Nat := (st.map (fun q => ax_cat q.1)).sum
/-- the call of method mi with its arguments as (in order), the rest of the stack below them -/
def ax_do (call : ax_F) (mi mc ms : Nat) (t : ax_T) (as rest : ax_K) (len pc : Nat) (lv : ax_L) (hp : List ax_C) (pr : List ax_V) (cn : Nat × Nat) : Option (List ax_S) :=
  if ax_words rest ≤ 8 ∧ t.2.2.1 ≤ 21 ∧ cn.1 + t.2.2.2.2.2.2.1 ≤ mc ∧ cn.2 + t.2.2.2.2.2.2.2 ≤ ms ∧ len = 3 then
    match call mi (as.map (fun q => q.1)) hp with
    | some outs => some (outs.map (ax_res (pc + 3) lv as rest pr (cn.1 + t.2.2.2.2.2.2.1, cn.2 + t.2.2.2.2.2.2.2)))
    | none => none
  else none
/-- kinds: 0 static, 1 of an object, 2 a constructor -/
def ax_inv (call : ax_F) (kd mi mc ms : Nat) (len pc : Nat) (lv : ax_L) (st : ax_K) (hp : List ax_C) (pr : List ax_V) (cn : Nat × Nat) : Option (List ax_S) := match ax_tab[mi]? with
  | none => none
  | some t => if t.2.2.2.2.1.2 = kd then (match kd with
    | 0 => if t.2.2.2.2.2.1 ≤ st.length then ax_do call mi mc ms t (st.take t.2.2.2.2.2.1).reverse (st.drop t.2.2.2.2.2.1) len pc lv hp pr cn else none
    | _ => match st.drop t.2.2.2.2.2.1 with
      | (.inr (.inr (some (q + 1))), o) :: rest => match hp[q]? with
        | some (.inl (ci, _)) => if (vwCl[ci]?).map (fun z => z.1) = some t.1.cls then ax_do call mi mc ms t ((.inr (.inr (some (q + 1))), o) :: (st.take t.2.2.2.2.2.1).reverse) rest len pc lv hp pr cn else none
        | _ => none
      | _ => none) else none
def ax_lnk (o i : Nat) : Option (Nat × Nat) := ax_get i (ax_ml o)
def ax_nlk (o i : Nat) : Option (Nat × (Nat × Nat)) := ax_nl.find? (fun e => e.1 == o && e.2.1 == i)
def ax_oif (o i : Nat) : Option (Nat × (Nat × Nat)) := ax_oi.find? (fun e => e.1 == o && e.2.1 == i)
def ax_invk (call : ax_F) (own kd i mc ms : Nat) (len pc : Nat) (lv : ax_L) (st : ax_K) (hp : List ax_C) (pr : List ax_V) (cn : Nat × Nat) : Option (List ax_S) := match ax_lnk own i with
  | some (mi, _) => ax_inv call kd mi mc ms len pc lv st hp pr cn
  | none => match ax_nlk own i with
    | some (_, _, mi) => ax_inv call kd mi mc ms len pc lv st hp pr cn
    | none => none
def ax_spec (call : ax_F) (own i mc ms : Nat) (len pc : Nat) (lv : ax_L) (st : ax_K) (hp : List ax_C) (pr : List ax_V) (cn : Nat × Nat) : Option (List ax_S) := match ax_oif own i with
  | some _ => match st with
    | (.inr (.inr (some _)), _) :: r => if ax_words r ≤ 8 ∧ len = 3 then some [(pc + 3, lv, r, hp, pr, cn)] else none
    | _ => none
  | none => ax_invk call own 2 i mc ms len pc lv st hp pr cn
end AXQ
section AXR
def ax_icf (o i : Nat) : Option (Nat × (Nat × (Int32 × Nat))) := ax_ic.find? (fun e => e.1 == o && e.2.1 == i)
def ax_lcf (o i : Nat) : Option (Nat × (Nat × (Int64 × Nat))) := ax_lc.find? (fun e => e.1 == o && e.2.1 == i)
def ax_ldc (own i : Nat) (len pc : Nat) (lv : ax_L) (st : ax_K) (hp : List ax_C) (pr : List ax_V) (cn : Nat × Nat) : Option (List ax_S) := match ax_icf own i with
  | some e => ax_push (ax_c32 e.2.2.1) 2 len pc lv st hp pr cn
  | none => none
def ax_ldcw (own i : Nat) (len pc : Nat) (lv : ax_L) (st : ax_K) (hp : List ax_C) (pr : List ax_V) (cn : Nat × Nat) : Option (List ax_S) := match ax_icf own i with
  | some e => ax_push (ax_c32 e.2.2.1) 3 len pc lv st hp pr cn
  | none => none
def ax_ldc2 (own i : Nat) (len pc : Nat) (lv : ax_L) (st : ax_K) (hp : List ax_C) (pr : List ax_V) (cn : Nat × Nat) : Option (List ax_S) := match ax_lcf own i with
  | some e => ax_push (.inr (.inl (e.2.2.1.toInt, e.2.2.1.toInt))) 3 len pc lv st hp pr cn
  | none => none
def ax_iinc (nL i : Nat) (v : Int) (len pc : Nat) (lv : ax_L) (st : ax_K) (hp : List ax_C) (pr : List ax_V) (cn : Nat × Nat) : Option (List ax_S) := match ax_get i lv with
  | some (.inl a, _) => if len = 3 ∧ i < nL then some [(pc + 3, ax_put1 i (.inl (ax_add a (((Int32.ofInt v).toInt, (Int32.ofInt v).toInt), none))) lv, ax_nol st, hp, pr, cn)] else none
  | _ => none
def ax_ineg (len pc : Nat) (lv : ax_L) (st : ax_K) (hp : List ax_C) (pr : List ax_V) (cn : Nat × Nat) : Option (List ax_S) := match st with
  | (.inl a, _) :: r => if len = 1 then some [(pc + 1, lv, (.inl (ax_neg a), none) :: r, hp, pr, cn)] else none
  | _ => none
def ax_i2l (len pc : Nat) (lv : ax_L) (st : ax_K) (hp : List ax_C) (pr : List ax_V) (cn : Nat × Nat) : Option (List ax_S) := match st with
  | (.inl a, _) :: r => if len = 1 then some [(pc + 1, lv, (.inr (.inl a.1), none) :: r, hp, pr, cn)] else none
  | _ => none
def ax_l2i (len pc : Nat) (lv : ax_L) (st : ax_K) (hp : List ax_C) (pr : List ax_V) (cn : Nat × Nat) : Option (List ax_S) := match st with
  | (.inr (.inl a), _) :: r => if len = 1 then some [(pc + 1, lv, (.inl (ax_fitN a.1 a.2 none), none) :: r, hp, pr, cn)] else none
  | _ => none
def ax_i2b (len pc : Nat) (lv : ax_L) (st : ax_K) (hp : List ax_C) (pr : List ax_V) (cn : Nat × Nat) : Option (List ax_S) := match st with
  | (.inl _, _) :: r => if len = 1 then some [(pc + 1, lv, (.inl ((-128, 127), none), none) :: r, hp, pr, cn)] else none
  | _ => none
def ax_lcp (len pc : Nat) (lv : ax_L) (st : ax_K) (hp : List ax_C) (pr : List ax_V) (cn : Nat × Nat) : Option (List ax_S) := match st with
  | (.inr (.inl b), _) :: (.inr (.inl a), _) :: r => if len = 1 then some [(pc + 1, lv, (.inl (ax_lcmp a b), none) :: r, hp, pr, cn)] else none
  | _ => none
def ax_dup (len pc : Nat) (lv : ax_L) (st : ax_K) (hp : List ax_C) (pr : List ax_V) (cn : Nat × Nat) : Option (List ax_S) := match st with
  | a :: r => if len = 1 ∧ ax_cat a.1 = 1 then some [(pc + 1, lv, a :: a :: r, hp, pr, cn)] else none
  | _ => none
def ax_dup2 (len pc : Nat) (lv : ax_L) (st : ax_K) (hp : List ax_C) (pr : List ax_V) (cn : Nat × Nat) : Option (List ax_S) := match st with
  | a :: b :: r => if len = 1 ∧ ax_cat a.1 = 1 ∧ ax_cat b.1 = 1 then some [(pc + 1, lv, a :: b :: a :: b :: r, hp, pr, cn)] else none
  | _ => none
def ax_pop (len pc : Nat) (lv : ax_L) (st : ax_K) (hp : List ax_C) (pr : List ax_V) (cn : Nat × Nat) : Option (List ax_S) := match st with
  | a :: r => if len = 1 ∧ ax_cat a.1 = 1 then some [(pc + 1, lv, r, hp, pr, cn)] else none
  | _ => none
def ax_goto (off : Int) (len pc : Nat) (lv : ax_L) (st : ax_K) (hp : List ax_C) (pr : List ax_V) (cn : Nat × Nat) : Option (List ax_S) := match ax_tgt pc off with
  | some t => if len = 3 then some [(t, lv, st, hp, pr, cn)] else none
  | none => none
def ax_nul (z : Bool) (off : Int) (len pc : Nat) (lv : ax_L) (st : ax_K) (hp : List ax_C) (pr : List ax_V) (cn : Nat × Nat) : Option (List ax_S) := match ax_tgt pc off, st with
  | some t, (.inr (.inr none), _) :: r => if len = 3 then some [(if z = true then t else pc + 3, lv, r, hp, pr, cn)] else none
  | some t, (.inr (.inr (some _)), _) :: r => if len = 3 then some [(if z = true then pc + 3 else t, lv, r, hp, pr, cn)] else none
  | _, _ => none
def ax_mmf (o i : Nat) : Option (Nat × (Nat × (Nat × Nat))) := ax_mm.find? (fun e => e.1 == o && e.2.1 == i)
def ax_mmx (k : Nat) (a b : ax_I) : ax_I := if k = 0 then (min a.1 b.1, min a.2 b.2) else (max a.1 b.1, max a.2 b.2)
def ax_mmo (k len pc : Nat) (lv : ax_L) (st : ax_K) (hp : List ax_C) (pr : List ax_V) (cn : Nat × Nat) (mc ms : Nat) : Option (List ax_S) := match st with
  | (.inl b, _) :: (.inl a, _) :: r => if len = 3 ∧ ax_words r ≤ 8 ∧ cn.1 ≤ mc ∧ cn.2 ≤ ms then some [(pc + 3, lv, (.inl (ax_mmx k a.1 b.1, none), none) :: r, hp, pr, cn)] else none
  | _ => none
def ax_stat (call : ax_F) (own i mc ms : Nat) (len pc : Nat) (lv : ax_L) (st : ax_K) (hp : List ax_C) (pr : List ax_V) (cn : Nat × Nat) : Option (List ax_S) := match ax_mmf own i with
  | some e => ax_mmo e.2.2.1 len pc lv st hp pr cn mc ms
  | none => ax_invk call own 0 i mc ms len pc lv st hp pr cn
end AXR
