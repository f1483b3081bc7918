/-! THE PURE MACHINE: a heap of fixed shape whose contents are whole numbers; one instruction -/
section PMD
/-- an int, a long, a reference (none: null; 0: the script; k + 1: place k of the world; behind the world: the static arrays) -/
abbrev pm_V : Type := Int ⊕ (Int ⊕ Option Nat)
abbrev pm_H : Type := Nat → Int → Int
abbrev pm_L : Type := List (Option pm_V)
abbrev pm_S : Type := Nat × (pm_L × (List pm_V × pm_H))
abbrev pm_Q : Type := Int → pm_H → Prop
/-- what an instruction does: (what must hold, conditions and the states behind it); a call; the end -/
abbrev pm_N : Type := (Prop × List (Prop × pm_S)) ⊕ ((Nat × (List pm_V × (Int → pm_H → pm_S))) ⊕ (Prop × Int))
def w32 (x : Int) : Int := (x + 2147483648) % 4294967296 - 2147483648
def w64 (x : Int) : Int := (x + 9223372036854775808) % 18446744073709551616 - 9223372036854775808
def w8 (x : Int) : Int := (x + 128) % 256 - 128
def pm_up (σ : pm_H) (q : Nat) (i v : Int) : pm_H := fun q' i' => if q' = q ∧ i' = i then v else σ q' i'
def pm_cp (σ : pm_H) (a : Nat) (i : Int) (d : Nat) (j n : Int) : pm_H := fun q' i' => if q' = d ∧ j ≤ i' ∧ i' < j + n then σ a (i + (i' - j)) else σ q' i'
def pm_cmp (a b : Int) : Int := if b < a then 1 else if a = b then 0 else -1
def pm_and (a b : Int) : Int := ((Int32.ofInt a) &&& (Int32.ofInt b)).toInt
def pm_or (a b : Int) : Int := ((Int32.ofInt a) ||| (Int32.ofInt b)).toInt
def pm_xor (a b : Int) : Int := ((Int32.ofInt a) ^^^ (Int32.ofInt b)).toInt
def pm_shr (a b : Int) : Int := ((Int32.ofInt a) >>> ((Int32.ofInt b) &&& 31)).toInt
def pm_ushr (a b : Int) : Int := ((Int32.ofInt a).toUInt32 >>> ((Int32.ofInt b).toUInt32 &&& Int32.toUInt32 31)).toInt32.toInt
def pm_nar (ty : FieldType) (v : Int) : Int := match ty with
  | .byte => w8 v
  | .boolean => v % 2
  | _ => v
def pm_ref (x : Int) : Option Nat := if x = -1 then none else some x.toNat
def pm_unref (r : Option Nat) : Int := match r with
  | none => -1
  | some k => (k : Int)
def pm_cat (a : pm_V) : Nat := match a with
  | .inr (.inl _) => 2
  | _ => 1
def pm_words (st : List pm_V) : Nat := (st.map pm_cat).sum
/-- an array of numbers: its type, its length, whether it may be written (L: the script's length and one more, where it is at hand) -/
def pm_arr (L : Nat) (k : Nat) : Option (FieldType × (Nat × Bool)) := match k with
  | 0 => if 0 < L then some (.int, L - 1, false) else none
  | k + 1 => match pm_sh[k]? with
    | some (.inr ((ty, n), none)) => some (ty, n, true)
    | some _ => none
    | none => (pm_ss[k - pm_sh.length]?).map (fun q => (q.2.1, q.2.2.length, false))
def pm_go (S : pm_S) : Option pm_N := some (.inl (True, [(True, S)]))
def pm_push (v : pm_V) (len0 len pc : Nat) (lv : pm_L) (st : List pm_V) (σ : pm_H) : Option pm_N := if len = len0 then pm_go (pc + len0, lv, v :: st, σ) else none
def pm_ld (kd i len0 len pc : Nat) (lv : pm_L) (st : List pm_V) (σ : pm_H) : Option pm_N := match lv[i]? with
  | some (some (.inl a)) => if kd = 0 ∧ len = len0 then pm_go (pc + len0, lv, .inl a :: st, σ) else none
  | some (some (.inr (.inl a))) => if kd = 1 ∧ len = len0 then pm_go (pc + len0, lv, .inr (.inl a) :: st, σ) else none
  | some (some (.inr (.inr a))) => if kd = 2 ∧ len = len0 then pm_go (pc + len0, lv, .inr (.inr a) :: st, σ) else none
  | _ => none
/-- what stands at a local when the one behind it is written: a long ends -/
def pm_k1 (o : Option pm_V) : Option pm_V := match o with
  | some (.inr (.inl _)) => none
  | o => o
def pm_kl (lv : pm_L) (i : Nat) : pm_L := match i with
  | 0 => lv
  | i + 1 => match lv[i]? with
    | some o => lv.set i (pm_k1 o)
    | none => lv
def pm_sto (kd nL i len0 len pc : Nat) (lv : pm_L) (st : List pm_V) (σ : pm_H) : Option pm_N := match st with
  | .inl a :: r => if kd = 0 ∧ len = len0 ∧ i < nL then pm_go (pc + len0, (pm_kl lv i).set i (some (.inl a)), r, σ) else none
  | .inr (.inl a) :: r => if kd = 1 ∧ len = len0 ∧ i + 1 < nL then pm_go (pc + len0, ((pm_kl lv i).set i (some (.inr (.inl a)))).set (i + 1) none, r, σ) else none
  | .inr (.inr a) :: r => if kd = 2 ∧ len = len0 ∧ i < nL then pm_go (pc + len0, (pm_kl lv i).set i (some (.inr (.inr a))), r, σ) else none
  | [] => none
def pm_iinc (nL i : Nat) (v : Int) (len pc : Nat) (lv : pm_L) (st : List pm_V) (σ : pm_H) : Option pm_N := match lv[i]? with
  | some (some (.inl a)) => if len = 3 ∧ i < nL then pm_go (pc + 3, (pm_kl lv i).set i (some (.inl (w32 (a + (Int32.ofInt v).toInt)))), st, σ) else none
  | _ => none
def pm_ii (f : Int → Int → Int) (g : Int → Int → Prop) (len pc : Nat) (lv : pm_L) (st : List pm_V) (σ : pm_H) : Option pm_N := match st with
  | .inl b :: .inl a :: r => if len = 1 then some (.inl (g a b, [(True, (pc + 1, lv, .inl (f a b) :: r, σ))])) else none
  | _ => none
def pm_ll (f : Int → Int → Int) (g : Int → Int → Prop) (len pc : Nat) (lv : pm_L) (st : List pm_V) (σ : pm_H) : Option pm_N := match st with
  | .inr (.inl b) :: .inr (.inl a) :: r => if len = 1 then some (.inl (g a b, [(True, (pc + 1, lv, .inr (.inl (f a b)) :: r, σ))])) else none
  | _ => none
/-- of one int: to an int (k 0), to a long (k 1) -/
def pm_i1 (k : Nat) (f : Int → Int) (len pc : Nat) (lv : pm_L) (st : List pm_V) (σ : pm_H) : Option pm_N := match st with
  | .inl a :: r => if len = 1 then pm_go (pc + 1, lv, (if k = 0 then .inl (f a) else .inr (.inl (f a))) :: r, σ) else none
  | _ => none
def pm_l2i (len pc : Nat) (lv : pm_L) (st : List pm_V) (σ : pm_H) : Option pm_N := match st with
  | .inr (.inl a) :: r => if len = 1 then pm_go (pc + 1, lv, .inl (w32 a) :: r, σ) else none
  | _ => none
def pm_lcp (len pc : Nat) (lv : pm_L) (st : List pm_V) (σ : pm_H) : Option pm_N := match st with
  | .inr (.inl b) :: .inr (.inl a) :: r => if len = 1 then pm_go (pc + 1, lv, .inl (pm_cmp a b) :: r, σ) else none
  | _ => none
def pm_dup (len pc : Nat) (lv : pm_L) (st : List pm_V) (σ : pm_H) : Option pm_N := match st with
  | a :: r => if len = 1 ∧ pm_cat a = 1 then pm_go (pc + 1, lv, a :: a :: r, σ) else none
  | _ => none
def pm_dup2 (len pc : Nat) (lv : pm_L) (st : List pm_V) (σ : pm_H) : Option pm_N := match st with
  | a :: b :: r => if len = 1 ∧ pm_cat a = 1 ∧ pm_cat b = 1 then pm_go (pc + 1, lv, a :: b :: a :: b :: r, σ) else none
  | _ => none
def pm_pop (len pc : Nat) (lv : pm_L) (st : List pm_V) (σ : pm_H) : Option pm_N := match st with
  | a :: r => if len = 1 ∧ pm_cat a = 1 then pm_go (pc + 1, lv, r, σ) else none
  | _ => none
def pm_pop2 (len pc : Nat) (lv : pm_L) (st : List pm_V) (σ : pm_H) : Option pm_N := match st with
  | a :: r => if len = 1 ∧ pm_cat a = 2 then pm_go (pc + 1, lv, r, σ) else none
  | _ => none
def pm_if1 (P : Int → Prop) (off : Int) (len pc : Nat) (lv : pm_L) (st : List pm_V) (σ : pm_H) : Option pm_N := match ax_tgt pc off, st with
  | some t, .inl a :: r => if len = 3 then some (.inl (True, [(P a, (t, lv, r, σ)), (¬ P a, (pc + 3, lv, r, σ))])) else none
  | _, _ => none
def pm_if2 (P : Int → Int → Prop) (off : Int) (len pc : Nat) (lv : pm_L) (st : List pm_V) (σ : pm_H) : Option pm_N := match ax_tgt pc off, st with
  | some t, .inl b :: .inl a :: r => if len = 3 then some (.inl (True, [(P a b, (t, lv, r, σ)), (¬ P a b, (pc + 3, lv, r, σ))])) else none
  | _, _ => none
def pm_goto (off : Int) (len pc : Nat) (lv : pm_L) (st : List pm_V) (σ : pm_H) : Option pm_N := match ax_tgt pc off with
  | some t => if len = 3 then pm_go (t, lv, st, σ) else none
  | none => none
def pm_nul (z : Bool) (off : Int) (len pc : Nat) (lv : pm_L) (st : List pm_V) (σ : pm_H) : Option pm_N := match ax_tgt pc off, st with
  | some t, .inr (.inr none) :: r => if len = 3 then pm_go (if z = true then t else pc + 3, lv, r, σ) else none
  | some t, .inr (.inr (some _)) :: r => if len = 3 then pm_go (if z = true then pc + 3 else t, lv, r, σ) else none
  | _, _ => none
/-- the cases of a switch from j on, f of them -/
def pm_sws (offs : List Int) (lo a : Int) (pc : Nat) (lv : pm_L) (r : List pm_V) (σ : pm_H) : Nat → Nat → Option (List (Prop × pm_S))
  | 0, _ => some []
  | f + 1, j => match offs[j]?, pm_sws offs lo a pc lv r σ f (j + 1) with
    | some off, some l => match ax_tgt pc off with
      | some t => some ((a = lo + j, (t, lv, r, σ)) :: l)
      | none => none
    | _, _ => none
def pm_sw (dflt lo hi : Int) (offs : Array Int) (pc : Nat) (lv : pm_L) (st : List pm_V) (σ : pm_H) : Option pm_N := match st with
  | .inl a :: r => match pm_sws offs.toList lo a pc lv r σ (hi - lo + 1).toNat 0, ax_tgt pc dflt with
    | some l, some t => some (.inl (True, l ++ [(a < lo ∨ hi < a, (t, lv, r, σ))]))
    | _, _ => none
  | _ => none
def pm_gf (own i : Nat) (len pc : Nat) (lv : pm_L) (st : List pm_V) (σ : pm_H) : Option pm_N := match st with
  | .inr (.inr (some (q + 1))) :: r => match ax_fld own i, pm_sh[q]? with
    | some (ci, k, _), some (.inl (cj, fs)) => match fs[k]? with
      | some none => if ci = cj ∧ len = 3 then pm_go (pc + 3, lv, .inl (σ (q + 1) (k : Int)) :: r, σ) else none
      | some (some x) => if ci = cj ∧ len = 3 then pm_go (pc + 3, lv, .inr (.inr x) :: r, σ) else none
      | none => none
    | _, _ => none
  | _ => none
def pm_fit (ty : FieldType) (v : Int) : Prop := match ty with
  | .int => True
  | .boolean => 0 ≤ v ∧ v ≤ 1
  | _ => False
def pm_pf (own : Nat) (i : Nat) (len pc : Nat) (lv : pm_L) (st : List pm_V) (σ : pm_H) : Option pm_N := match st with
  | .inl v :: .inr (.inr (some (q + 1))) :: r => match ax_fld own i, pm_sh[q]? with
    | some (ci, k, _), some (.inl (cj, fs)) => match fs[k]? with
      | some none => if ci = cj ∧ ax_wr own ci k false = true ∧ len = 3 then some (.inl (pm_fit (ax_tyOf ci k) v, [(True, (pc + 3, lv, r, pm_up σ (q + 1) (k : Int) v))])) else none
      | _ => none
    | _, _ => none
  | _ => none
def pm_xld (L : Nat) (ts : List FieldType) (len pc : Nat) (lv : pm_L) (st : List pm_V) (σ : pm_H) : Option pm_N := match st with
  | .inl a :: .inr (.inr (some k)) :: r => match pm_arr L k with
    | some (ty, n, _) => if ty ∈ ts ∧ len = 1 then some (.inl (0 ≤ a ∧ a < (n : Int), [(True, (pc + 1, lv, .inl (σ k a) :: r, σ))])) else none
    | none => none
  | _ => none
def pm_lald (len pc : Nat) (lv : pm_L) (st : List pm_V) (σ : pm_H) : Option pm_N := match st with
  | .inl a :: .inr (.inr (some k)) :: r => match pm_arr 0 k with
    | some (ty, n, _) => if ty = .long ∧ len = 1 then some (.inl (0 ≤ a ∧ a < (n : Int), [(True, (pc + 1, lv, .inr (.inl (σ k a)) :: r, σ))])) else none
    | none => none
  | _ => none
def pm_aald (len pc : Nat) (lv : pm_L) (st : List pm_V) (σ : pm_H) : Option pm_N := match st with
  | .inl a :: .inr (.inr (some (k + 1))) :: r => match pm_sh[k]? with
    | some (.inr ((.object _, n), some rs)) => if rs.length = n ∧ len = 1 then some (.inl (0 ≤ a ∧ a < (n : Int), (List.range n).map (fun (j : Nat) => (a = (j : Int), (pc + 1, lv, .inr (.inr (rs.getD j none)) :: r, σ))))) else none
    | _ => none
  | _ => none
def pm_xst (ts : List FieldType) (len pc : Nat) (lv : pm_L) (st : List pm_V) (σ : pm_H) : Option pm_N := match st with
  | .inl v :: .inl a :: .inr (.inr (some k)) :: r => match pm_arr 0 k with
    | some (ty, n, true) => if ty ∈ ts ∧ len = 1 then some (.inl (0 ≤ a ∧ a < (n : Int), [(True, (pc + 1, lv, r, pm_up σ k a (pm_nar ty v)))])) else none
    | _ => none
  | _ => none
def pm_last (len pc : Nat) (lv : pm_L) (st : List pm_V) (σ : pm_H) : Option pm_N := match st with
  | .inr (.inl v) :: .inl a :: .inr (.inr (some k)) :: r => match pm_arr 0 k with
    | some (ty, n, true) => if ty = .long ∧ len = 1 then some (.inl (0 ≤ a ∧ a < (n : Int), [(True, (pc + 1, lv, r, pm_up σ k a v))])) else none
    | _ => none
  | _ => none
def pm_alen (L : Nat) (len pc : Nat) (lv : pm_L) (st : List pm_V) (σ : pm_H) : Option pm_N := match st with
  | .inr (.inr (some k)) :: r => match pm_arr L k with
    | some (_, n, _) => if len = 1 ∧ n < 2147483648 then pm_go (pc + 1, lv, .inl (n : Int) :: r, σ) else none
    | none => none
  | _ => none
def pm_gsf (own i : Nat) : Option (Nat × (Nat × (Nat × Nat))) := pm_gs.find? (fun e => e.1 == own && e.2.1 == i)
def pm_gsf0 (own i : Nat) : Option (Nat × (Nat × (Nat × Nat))) := pm_gs0.find? (fun e => e.1 == own && e.2.1 == i)
def pm_gets (own i : Nat) (len pc : Nat) (lv : pm_L) (st : List pm_V) (σ : pm_H) : Option pm_N := match pm_gsf own i with
  | some e => pm_push (.inr (.inr (some (pm_sh.length + 1 + e.2.2.1)))) 3 len pc lv st σ
  | none => match pm_gsf0 own i with
    | some e => pm_push (.inr (.inr (some (pm_sh.length + 1 + e.2.2.1)))) 3 len pc lv st σ
    | none => none
def pm_ldc (own i len0 : Nat) (len pc : Nat) (lv : pm_L) (st : List pm_V) (σ : pm_H) : Option pm_N := match ax_icf own i with
  | some e => pm_push (.inl e.2.2.1.toInt) len0 len pc lv st σ
  | none => none
def pm_ldc2 (own i : Nat) (len pc : Nat) (lv : pm_L) (st : List pm_V) (σ : pm_H) : Option pm_N := match ax_lcf own i with
  | some e => pm_push (.inr (.inl e.2.2.1.toInt)) 3 len pc lv st σ
  | none => none
/-- an answer on the stack -/
def pm_rs (ret : Option FieldType) (r : Int) : List pm_V := match ret with
  | none => []
  | some .long => [.inr (.inl r)]
  | some (.object _) => [.inr (.inr (pm_ref r))]
  | some _ => [.inl r]
def pm_do (mi : Nat) (t : ax_T) (as rest : List pm_V) (len pc : Nat) (lv : pm_L) : Option pm_N :=
  if pm_words rest ≤ 8 ∧ t.2.2.1 ≤ 21 ∧ t.2.2.2.2.2.2.1 = 0 ∧ t.2.2.2.2.2.2.2 = 0 ∧ len = 3 then some (.inr (.inl (mi, as, fun r σ => (pc + 3, lv, pm_rs t.2.2.2.1 r ++ rest, σ)))) else none
/-- kinds: 0 static, 1 of an object -/
def pm_inv (kd mi : Nat) (len pc : Nat) (lv : pm_L) (st : List pm_V) : Option pm_N := match ax_tab[mi]? with
  | none => none
  | some t => if t.2.2.2.2.1.2 = kd then (match kd with
    | 0 => if t.2.2.2.2.2.1 ≤ st.length then pm_do mi t (st.take t.2.2.2.2.2.1).reverse (st.drop t.2.2.2.2.2.1) len pc lv else none
    | _ => match st.drop t.2.2.2.2.2.1 with
      | .inr (.inr (some (q + 1))) :: rest => match pm_sh[q]? with
        | some (.inl (ci, _)) => if (vwCl[ci]?).map (fun z => z.1) = some t.1.cls then pm_do mi t (.inr (.inr (some (q + 1))) :: (st.take t.2.2.2.2.2.1).reverse) rest len pc lv else none
        | _ => none
      | _ => none) else none
def pm_invk (own kd i : Nat) (len pc : Nat) (lv : pm_L) (st : List pm_V) : Option pm_N := match ax_lnk own i with
  | some (mi, _) => pm_inv kd mi len pc lv st
  | none => match ax_nlk own i with
    | some (_, _, mi) => pm_inv kd mi len pc lv st
    | none => none
def pm_acf (own i : Nat) : Option (Nat × (Nat × Nat)) := pm_ac.find? (fun e => e.1 == own && e.2.1 == i)
def pm_copy (len pc : Nat) (lv : pm_L) (st : List pm_V) (σ : pm_H) : Option pm_N := match st with
  | .inl n :: .inl dp :: .inr (.inr (some d)) :: .inl sp :: .inr (.inr (some a)) :: r => match pm_arr 0 a, pm_arr 0 d with
    | some (.int, na, _), some (.int, nd, true) => if pm_words r ≤ 8 ∧ len = 3 then some (.inl ((0 ≤ sp ∧ 0 ≤ dp ∧ 0 ≤ n) ∧ sp + n ≤ (na : Int) ∧ dp + n ≤ (nd : Int), [(True, (pc + 3, lv, r, pm_cp σ a sp d dp n))])) else none
    | _, _ => none
  | _ => none
def pm_fmf (own i : Nat) : Option (Nat × (Nat × Nat)) := pm_fm.find? (fun e => e.1 == own && e.2.1 == i)
def pm_floor (len pc : Nat) (lv : pm_L) (st : List pm_V) (σ : pm_H) : Option pm_N := match st with
  | .inl b :: .inl a :: r => if pm_words r ≤ 8 ∧ len = 3 then some (.inl (¬ b = 0, [(True, (pc + 3, lv, .inl (Int.tmod a b) :: r, σ)), (True, (pc + 3, lv, .inl (w32 (Int.tmod a b + b)) :: r, σ))])) else none
  | _ => none
def pm_mm (k : Nat) (a b : Int) : Int := if k = 0 then (if b < a then b else a) else (if a < b then b else a)
def pm_mmo (k : Nat) (len pc : Nat) (lv : pm_L) (st : List pm_V) (σ : pm_H) : Option pm_N := match st with
  | .inl b :: .inl a :: r => if pm_words r ≤ 8 ∧ len = 3 then pm_go (pc + 3, lv, .inl (pm_mm k a b) :: r, σ) else none
  | _ => none
def pm_stat (own i : Nat) (len pc : Nat) (lv : pm_L) (st : List pm_V) (σ : pm_H) : Option pm_N := match pm_acf own i with
  | some _ => pm_copy len pc lv st σ
  | none => match pm_fmf own i with
    | some _ => pm_floor len pc lv st σ
    | none => match ax_mmf own i with
      | some e => pm_mmo e.2.2.1 len pc lv st σ
      | none => pm_invk own 0 i len pc lv st
def pm_ret (ret : Option FieldType) (k : Nat) (len : Nat) (st : List pm_V) : Option pm_N := if len = 1 then (match k, ret, st with
  | 0, none, [] => some (.inr (.inr (True, 0)))
  | 1, some .int, [.inl a] => some (.inr (.inr (True, a)))
  | 1, some .boolean, [.inl a] => some (.inr (.inr (0 ≤ a ∧ a ≤ 1, a)))
  | 2, some .long, [.inr (.inl a)] => some (.inr (.inr (True, a)))
  | 3, some (.object _), [.inr (.inr a)] => some (.inr (.inr (True, pm_unref a)))
  | _, _, _ => none) else none
def pm_op (own nL L : Nat) (ret : Option FieldType) (i : Instr) (len pc : Nat) (lv : pm_L) (st : List pm_V) (σ : pm_H) : Option pm_N := match i with
  | .iconst v => pm_push (.inl (Int32.ofInt v).toInt) 1 len pc lv st σ
  | .bipush v => pm_push (.inl (Int8.ofInt v).toInt32.toInt) 2 len pc lv st σ
  | .sipush v => pm_push (.inl (Int16.ofInt v).toInt32.toInt) 3 len pc lv st σ
  | .lconst v => pm_push (.inr (.inl (Int64.ofNat v).toInt)) 1 len pc lv st σ
  | .aconst_null => pm_push (.inr (.inr none)) 1 len pc lv st σ
  | .ldc j => pm_ldc own j 2 len pc lv st σ
  | .ldc_w j => pm_ldc own j 3 len pc lv st σ
  | .ldc2_w j => pm_ldc2 own j len pc lv st σ
  | .iload_n j => pm_ld 0 j 1 len pc lv st σ
  | .iload j => pm_ld 0 j 2 len pc lv st σ
  | .lload_n j => pm_ld 1 j 1 len pc lv st σ
  | .lload j => pm_ld 1 j 2 len pc lv st σ
  | .aload_n j => pm_ld 2 j 1 len pc lv st σ
  | .aload j => pm_ld 2 j 2 len pc lv st σ
  | .istore_n j => pm_sto 0 nL j 1 len pc lv st σ
  | .istore j => pm_sto 0 nL j 2 len pc lv st σ
  | .lstore_n j => pm_sto 1 nL j 1 len pc lv st σ
  | .lstore j => pm_sto 1 nL j 2 len pc lv st σ
  | .astore_n j => pm_sto 2 nL j 1 len pc lv st σ
  | .astore j => pm_sto 2 nL j 2 len pc lv st σ
  | .iinc j v => pm_iinc nL j v len pc lv st σ
  | .iadd => pm_ii (fun a b => w32 (a + b)) (fun _ _ => True) len pc lv st σ
  | .isub => pm_ii (fun a b => w32 (a - b)) (fun _ _ => True) len pc lv st σ
  | .imul => pm_ii (fun a b => w32 (a * b)) (fun _ _ => True) len pc lv st σ
  | .idiv => pm_ii (fun a b => w32 (Int.tdiv a b)) (fun _ b => ¬ b = 0) len pc lv st σ
  | .irem => pm_ii (fun a b => Int.tmod a b) (fun _ b => ¬ b = 0) len pc lv st σ
  | .iand => pm_ii pm_and (fun _ _ => True) len pc lv st σ
  | .ior => pm_ii pm_or (fun _ _ => True) len pc lv st σ
  | .ixor => pm_ii pm_xor (fun _ _ => True) len pc lv st σ
  | .ishr => pm_ii pm_shr (fun _ _ => True) len pc lv st σ
  | .iushr => pm_ii pm_ushr (fun _ _ => True) len pc lv st σ
  | .ineg => pm_i1 0 (fun a => w32 (-a)) len pc lv st σ
  | .i2l => pm_i1 1 (fun a => a) len pc lv st σ
  | .i2b => pm_i1 0 w8 len pc lv st σ
  | .l2i => pm_l2i len pc lv st σ
  | .ladd => pm_ll (fun a b => w64 (a + b)) (fun _ _ => True) len pc lv st σ
  | .lsub => pm_ll (fun a b => w64 (a - b)) (fun _ _ => True) len pc lv st σ
  | .lmul => pm_ll (fun a b => w64 (a * b)) (fun _ _ => True) len pc lv st σ
  | .ldiv => pm_ll (fun a b => w64 (Int.tdiv a b)) (fun _ b => ¬ b = 0) len pc lv st σ
  | .lrem => pm_ll (fun a b => Int.tmod a b) (fun _ b => ¬ b = 0) len pc lv st σ
  | .lcmp => pm_lcp len pc lv st σ
  | .dup => pm_dup len pc lv st σ
  | .dup2 => pm_dup2 len pc lv st σ
  | .pop => pm_pop len pc lv st σ
  | .pop2 => pm_pop2 len pc lv st σ
  | .ifCond .eq off => pm_if1 (fun a => a = 0) off len pc lv st σ
  | .ifCond .ne off => pm_if1 (fun a => ¬ a = 0) off len pc lv st σ
  | .ifCond .lt off => pm_if1 (fun a => a < 0) off len pc lv st σ
  | .ifCond .ge off => pm_if1 (fun a => 0 ≤ a) off len pc lv st σ
  | .ifCond .gt off => pm_if1 (fun a => 0 < a) off len pc lv st σ
  | .ifCond .le off => pm_if1 (fun a => a ≤ 0) off len pc lv st σ
  | .if_icmp .eq off => pm_if2 (fun a b => a = b) off len pc lv st σ
  | .if_icmp .ne off => pm_if2 (fun a b => ¬ a = b) off len pc lv st σ
  | .if_icmp .lt off => pm_if2 (fun a b => a < b) off len pc lv st σ
  | .if_icmp .ge off => pm_if2 (fun a b => b ≤ a) off len pc lv st σ
  | .if_icmp .gt off => pm_if2 (fun a b => b < a) off len pc lv st σ
  | .if_icmp .le off => pm_if2 (fun a b => a ≤ b) off len pc lv st σ
  | .goto off => pm_goto off len pc lv st σ
  | .ifnull off => pm_nul true off len pc lv st σ
  | .ifnonnull off => pm_nul false off len pc lv st σ
  | .tableswitch d lo hi offs => pm_sw d lo hi offs pc lv st σ
  | .getfield j => pm_gf own j len pc lv st σ
  | .putfield j => pm_pf own j len pc lv st σ
  | .getstatic j => pm_gets own j len pc lv st σ
  | .iaload => pm_xld L [.int] len pc lv st σ
  | .baload => pm_xld 0 [.byte, .boolean] len pc lv st σ
  | .laload => pm_lald len pc lv st σ
  | .aaload => pm_aald len pc lv st σ
  | .iastore => pm_xst [.int] len pc lv st σ
  | .bastore => pm_xst [.byte, .boolean] len pc lv st σ
  | .lastore => pm_last len pc lv st σ
  | .arraylength => pm_alen L len pc lv st σ
  | .invokevirtual j => pm_invk own 1 j len pc lv st
  | .invokestatic j => pm_stat own j len pc lv st σ
  | .ireturn => pm_ret ret 1 len st
  | .lreturn => pm_ret ret 2 len st
  | .areturn => pm_ret ret 3 len st
  | .return_ => pm_ret ret 0 len st
  | _ => none
end PMD
