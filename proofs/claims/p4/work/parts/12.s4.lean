/-! ABSTRACT RUNS: array stores, new cells -/
section AXS4
def ax_gst (ty : FieldType) (y : Int32) : Int32 := match ty with
  | .byte => vp_nar .byte y
  | .boolean => vp_nar .boolean y
  | _ => y
theorem ax_nar_ok {ty : FieldType} {v : ax_I} {y : Int32} (h : v.1 ≤ y.toInt ∧ y.toInt ≤ v.2) : (ax_nar ty v).1 ≤ (ax_gst ty y).toInt ∧ (ax_gst ty y).toInt ≤ (ax_nar ty v).2 := by
  unfold ax_nar ax_gst
  split
  · rw [vp_nar_byte]
    have e1 : y.toInt8.toInt32.toInt = y.toInt8.toInt := Int8.toInt_toInt32 _
    rw [e1]
    split
    · rename_i hv
      have e2 : y.toInt8.toInt = y.toInt.bmod (2 ^ 8) := Int32.toInt_toInt8 _
      have e3 : ((2 ^ 8 : Nat) : Int) = 256 := by decide
      have e4 : y.toInt.bmod (2 ^ 8) = y.toInt := by
        unfold Int.bmod
        simp only [e3]
        split <;> omega
      rw [e2, e4]
      exact h
    · have h1 := y.toInt8.le_toInt
      have h2 := y.toInt8.toInt_lt
      refine ⟨?_, ?_⟩ <;> dsimp only <;> omega
  · have e1 : vp_nar .boolean y = y &&& 1 := rfl
    rw [e1]
    have h0 : (0 : Int32).toInt = 0 := by decide
    have h1 : (1 : Int32).toInt = 1 := by decide
    split
    · rename_i hv
      have e3 : y = 0 ∨ y = 1 := by
        rcases (show y.toInt = 0 ∨ y.toInt = 1 by omega) with z | z
        · exact Or.inl (Int32.toInt_inj.mp (by rw [z, h0]))
        · exact Or.inr (Int32.toInt_inj.mp (by rw [z, h1]))
      rcases e3 with rfl | rfl
      · exact h
      · exact h
    · have := ax_andn (x := y) (y := 1) (by rw [h1]; decide)
      rw [h1] at this
      exact this
  · rename_i n1 n2
    split
    · exact (n1 rfl).elim
    · exact (n2 rfl).elim
    · exact h
theorem ax_hull_ok {a b : ax_I} {x : Int} (h : (a.1 ≤ x ∧ x ≤ a.2) ∨ (b.1 ≤ x ∧ x ≤ b.2)) : (ax_hull a b).1 ≤ x ∧ x ≤ (ax_hull a b).2 := by
  unfold ax_hull
  dsimp only
  omega
variable {p : Program} {l : Launch} {e : Env} {R : Room} {s : State} {m : MethodId} {args : Array Value} {below : List Frame} {meth : Method} {c : Code} {Q : State → Prop} {D : va_G} {A : Nat → Prop} {b : Nat} {γ : Nat → Int} {pv : List Value} {own : Nat} {ini : Bool} {nL L mc ms d : Nat} {cc : ByteArray} {xs : Nat → Int32} {call : ax_F}
theorem ax_xst_ok {ts : List FieldType} {len pc : Nat} {lv : ax_L} {st : ax_K} {hp : List ax_C} {pr : List ax_V} {cn : Nat × Nat} {out : List ax_S}
    (row : ∀ ty ∈ ts, len = 1 → ∀ {H : Heap} {locs : List Loc} {ls : Array Slot} {rest : List Value} {ws : va_W} {tys : List (ClassId × FieldType)} {q t0 a n : Nat} {cA : ClassId} {f : Nat → Int32} {x y : Int32}, va_K D vwCl tys s → va_P D vwCl ws H → va_D A ws → va_S A s.heap H locs → ws[q]? = some (a, .inl (cA, n, .inl f)) → tys[t0]? = some (cA, ty) → vp_in x n → (∀ (H1 : Heap) (locs1 : List Loc), va_P D vwCl (ws.set q (a, .inl (cA, n, .inl (upd f x.toNatClampNeg (ax_gst ty y))))) H1 → va_D A (ws.set q (a, .inl (cA, n, .inl (upd f x.toNatClampNeg (ax_gst ty y))))) → va_S A s.heap H1 locs1 → W p l e R s m args below meth c H1 locs1 cn.1 cn.2 Q (F0 m (pc + 1) ls rest)) → W p l e R s m args below meth c H locs cn.1 cn.2 Q (F0 m pc ls (.int y :: .int x :: .ref a :: rest)))
    (h : ax_xst ts len pc lv st hp pr cn = some out) (hG : ∀ S ∈ out, ax_G p l e R s m args below meth c Q D A b γ pv nL S) : ax_G p l e R s m args below meth c Q D A b γ pv nL (pc, lv, st, hp, pr, cn) := by
  unfold ax_xst at h
  split at h
  · split at h
    · rename_i ty n iv hn
      split at h
      · rename_i hl
        obtain ⟨ha, hty, hlen⟩ := hl
        cases h
        intro cv cs ws tys ls H locs M hls hK hP hD hS
        obtain ⟨v0, cr, rfl, c1, c2⟩ := ax_popk M.2.2.1
        obtain ⟨v1, cr, rfl, d1, d2⟩ := ax_popk c2
        obtain ⟨v2, cr, rfl, e1, e2⟩ := ax_popk d2
        obtain ⟨y, rfl, c3⟩ := ax_ok_i c1.1
        obtain ⟨x, rfl, d3⟩ := ax_ok_i d1.1
        obtain ⟨a, rfl, e3⟩ := ax_ok_r e1.1
        obtain ⟨q, rfl, hq⟩ := ax_nums_ok hn
        obtain ⟨w, e4, e5⟩ := ax_all2_get M.2.2.2 hq
        have e6 := ax_at e3 e4
        obtain ⟨cA, f, e7, ⟨t0, e8⟩, e9⟩ := ax_cok_n e5
        rw [e7] at e6
        subst e6
        obtain ⟨k1, k2, k3⟩ := ax_ain_ok ha d3
        refine row ty hty hlen hK hP hD hS e4 e8 k1 (fun H1 locs1 hP1 hD1 hS1 => ?_)
        refine hG _ (List.mem_singleton.mpr rfl) cv _ _ tys ls H1 locs1 (ax_M_set (y := .inl (cA, n, .inl (upd f x.toNatClampNeg (ax_gst ty y)))) M.1 M.2.1 e2 M.2.2.2 e4 ⟨rfl, ⟨t0, e8⟩, fun j hj => ?_⟩) hls hK hP1 hD1 hS1
        unfold upd
        split
        · exact ax_hull_ok (Or.inr (ax_nar_ok c3.1))
        · exact ax_hull_ok (Or.inl (e9 j hj))
      · cases h
    · cases h
  · cases h
theorem ax_iast_ok (X : ax_X p R s m args meth c A b γ pv own ini nL L mc ms d cc xs) {len pc : Nat} {lv : ax_L} {st : ax_K} {hp : List ax_C} {pr : List ax_V} {cn : Nat × Nat} {out : List ax_S} (hd : decode cc pc = .ok (.iastore, len)) (h : ax_xst [.int] len pc lv st hp pr cn = some out) (hG : ∀ S ∈ out, ax_G p l e R s m args below meth c Q D A b γ pv nL S) : ax_G p l e R s m args below meth c Q D A b γ pv nL (pc, lv, st, hp, pr, cn) := by
  obtain ⟨⟨hx, hb, hml, hown, hts⟩, -⟩ := X
  refine ax_xst_ok (fun ty hty hlen => ?_) h hG
  cases List.mem_singleton.mp hty
  subst hlen
  intro H locs ls rest ws tys q t0 a n cA f x y hK hP hD hS h1 h2 h3 kk
  exact va_iast hx hb hK hP hD hS q t0 h1 h2 h3 hd kk
theorem ax_bast_ok (X : ax_X p R s m args meth c A b γ pv own ini nL L mc ms d cc xs) {len pc : Nat} {lv : ax_L} {st : ax_K} {hp : List ax_C} {pr : List ax_V} {cn : Nat × Nat} {out : List ax_S} (hd : decode cc pc = .ok (.bastore, len)) (h : ax_xst [.byte, .boolean] len pc lv st hp pr cn = some out) (hG : ∀ S ∈ out, ax_G p l e R s m args below meth c Q D A b γ pv nL S) : ax_G p l e R s m args below meth c Q D A b γ pv nL (pc, lv, st, hp, pr, cn) := by
  obtain ⟨⟨hx, hb, hml, hown, hts⟩, -⟩ := X
  refine ax_xst_ok (fun ty hty hlen => ?_) h hG
  subst hlen
  intro H locs ls rest ws tys q t0 a n cA f x y hK hP hD hS h1 h2 h3 kk
  rcases List.mem_cons.mp hty with rfl | hty
  · exact va_bast hx hb hK hP hD hS q t0 h1 h2 h3 hd kk
  · cases List.mem_singleton.mp hty
    exact va_zast hx hb hK hP hD hS q t0 h1 h2 h3 hd kk
theorem ax_last_ok (X : ax_X p R s m args meth c A b γ pv own ini nL L mc ms d cc xs) {len pc : Nat} {lv : ax_L} {st : ax_K} {hp : List ax_C} {pr : List ax_V} {cn : Nat × Nat} {out : List ax_S} (hd : decode cc pc = .ok (.lastore, len)) (h : ax_last len pc lv st hp pr cn = some out) (hG : ∀ S ∈ out, ax_G p l e R s m args below meth c Q D A b γ pv nL S) : ax_G p l e R s m args below meth c Q D A b γ pv nL (pc, lv, st, hp, pr, cn) := by
  obtain ⟨⟨hx, hb, hml, hown, hts⟩, -⟩ := X
  unfold ax_last at h
  split at h
  · split at h
    · rename_i vv o0 ai o1 q o2 r x n iv hq
      split at h
      · rename_i hl
        obtain ⟨ha, rfl⟩ := hl
        cases h
        intro cv cs ws tys ls H locs M hls hK hP hD hS
        obtain ⟨v0, cr, rfl, c1, c2⟩ := ax_popk M.2.2.1
        obtain ⟨v1, cr, rfl, d1, d2⟩ := ax_popk c2
        obtain ⟨v2, cr, rfl, e1, e2⟩ := ax_popk d2
        obtain ⟨y, rfl, c3⟩ := ax_ok_l c1.1
        obtain ⟨x, rfl, d3⟩ := ax_ok_i d1.1
        obtain ⟨a, rfl, e3⟩ := ax_ok_r e1.1
        obtain ⟨w, e4, e5⟩ := ax_all2_get M.2.2.2 hq
        have e6 := ax_at e3 e4
        obtain ⟨cA, f, e7, ⟨t0, e8⟩, e9⟩ := ax_cok_l e5
        rw [e7] at e6
        subst e6
        obtain ⟨k1, k2, k3⟩ := ax_ain_ok ha d3
        refine va_last hx hb hK hP hD hS q t0 e4 e8 k1 hd (fun H1 locs1 hP1 hD1 hS1 => ?_)
        refine hG _ (List.mem_singleton.mpr rfl) cv _ _ tys ls H1 locs1 (ax_M_set (y := .inl (cA, n, .inr (.inl (vp_updL f x.toNatClampNeg y)))) M.1 M.2.1 e2 M.2.2.2 e4 ⟨rfl, ⟨t0, e8⟩, fun j hj => ?_⟩) hls hK hP1 hD1 hS1
        unfold vp_updL
        split
        · exact ax_hull_ok (Or.inr c3)
        · exact ax_hull_ok (Or.inl (e9 j hj))
      · cases h
    · cases h
  · cases h
theorem ax_aast_ok (X : ax_X p R s m args meth c A b γ pv own ini nL L mc ms d cc xs) {len pc : Nat} {lv : ax_L} {st : ax_K} {hp : List ax_C} {pr : List ax_V} {cn : Nat × Nat} {out : List ax_S} (hd : decode cc pc = .ok (.aastore, len)) (h : ax_aast len pc lv st hp pr cn = some out) (hG : ∀ S ∈ out, ax_G p l e R s m args below meth c Q D A b γ pv nL S) : ax_G p l e R s m args below meth c Q D A b γ pv nL (pc, lv, st, hp, pr, cn) := by
  obtain ⟨⟨hx, hb, hml, hown, hts⟩, -⟩ := X
  unfold ax_aast at h
  split at h
  · split at h
    · rename_i vv o0 ai o1 q o2 r x1 x2 C n rs ci afs hq hv
      split at h
      · rename_i hl
        obtain ⟨ha, hlo, hC, rfl⟩ := hl
        cases h
        intro cv cs ws tys ls H locs M hls hK hP hD hS
        obtain ⟨v0, cr, rfl, c1, c2⟩ := ax_popk M.2.2.1
        obtain ⟨v1, cr, rfl, d1, d2⟩ := ax_popk c2
        obtain ⟨v2, cr, rfl, e1, e2⟩ := ax_popk d2
        obtain ⟨ra, rfl, c3⟩ := ax_ok_r c1.1
        obtain ⟨x, rfl, d3⟩ := ax_ok_i d1.1
        obtain ⟨a, rfl, e3⟩ := ax_ok_r e1.1
        obtain ⟨w, e4, e5⟩ := ax_all2_get M.2.2.2 hq
        have e6 := ax_at e3 e4
        obtain ⟨cA, f, e7, ⟨t0, e8⟩, e9⟩ := ax_cok_q e5
        rw [e7] at e6
        subst e6
        obtain ⟨w2, f4, f5⟩ := ax_all2_get M.2.2.2 hv
        have f6 := ax_at c3 f4
        obtain ⟨vs, f7, f8⟩ := ax_cok_o f5
        rw [f7] at f6
        subst f6
        obtain ⟨k1, k2, k3⟩ := ax_ain_ok ha d3
        obtain ⟨z, g1, g2⟩ := Option.map_eq_some_iff.mp hC
        subst g2
        refine va_astq hx hb hK hP hD hS q t0 vv ci e4 e8 f4 g1 k1 hd (fun H1 locs1 hP1 hD1 hS1 => ?_)
        refine hG _ (List.mem_singleton.mpr rfl) cv _ _ tys ls H1 locs1 (ax_M_set (y := .inl (cA, n, .inr (.inr (.inr (.inr (va_up f x.toNatClampNeg (some ra))))))) M.1 M.2.1 e2 M.2.2.2 e4 ⟨rfl, ⟨t0, e8⟩, fun j hj => ?_⟩) hls hK hP1 hD1 hS1
        have hx1 := d3.1
        have hx2 : x.toNatClampNeg = ai.1.1.toNat := by omega
        obtain ⟨y, g3, g4⟩ := e9 j hj
        unfold va_up
        rw [hx2]
        split
        · rename_i hj2
          subst hj2
          refine ⟨some (vv + 1), ?_, c3⟩
          rw [List.getElem?_set_self', g3]
          rfl
        · rename_i hj2
          exact ⟨y, by rw [List.getElem?_set_ne (fun h => hj2 h.symm)]; exact g3, g4⟩
      · cases h
    · cases h
  · cases h
theorem ax_more1 {α : Type} {l : List α} {x : α} : ∀ (k : Nat) (q : α), l[k]? = some q → (l ++ [x])[k]? = some q := by
  intro k q h
  have h1 : k < l.length := (List.getElem?_eq_some_iff.mp h).1
  rw [List.getElem?_append_left h1]
  exact h
/-- a cell is made -/
theorem ax_M_push {γ : Nat → Int} {b : Nat} {pv : List Value} {lv : ax_L} {st : ax_K} {hp : List ax_C} {pr : List ax_V} {cv : List (Nat × Value)} {cs : List Value} {ws : va_W} {tys tys' : List (ClassId × FieldType)} {w : Nat × va_E} {c : ax_C}
    (M : ax_M γ b pv lv st hp pr cv cs ws tys) (ht : ∀ (k : Nat) (q : ClassId × FieldType), tys[k]? = some q → tys'[k]? = some q) (hc : ax_cok γ (ax_RR b (ws ++ [w])) tys' c w.2) :
    ax_M γ b pv lv ((.inr (.inr (some (hp.length + 1))), none) :: st) (hp ++ [c]) pr cv (.ref w.1 :: cs) (ws ++ [w]) tys' := by
  have hR : ∀ (k q : Nat), (ax_RR b ws)[k]? = some q → (ax_RR b (ws ++ [w]))[k]? = some q := by
    intro k q h
    have e : ax_RR b (ws ++ [w]) = ax_RR b ws ++ [w.1] := by simp [ax_RR]
    rw [e]
    exact ax_more1 k q h
  obtain ⟨h1, h2, h3, h4⟩ := M
  have hlen := ax_all2_len h4
  refine ⟨ax_all2_mono (fun _ _ => ax_ok_more hR) h1, ax_all2_mono (fun q r h => ⟨h.1, ax_ok_more hR h.2.1, h.2.2⟩) h2, ⟨⟨?_, trivial⟩, ax_all2_mono (fun q v h => ⟨ax_ok_more hR h.1, ?_⟩) h3⟩, ax_all2_app (ax_all2_mono (fun _ _ => ax_cok_more hR ht) h4) ⟨hc, trivial⟩⟩
  · show (ax_RR b (ws ++ [w]))[hp.length + 1]? = some w.1
    rw [hlen]
    simp [ax_RR]
  · have h9 := h.2
    rcases q with ⟨a, _ | i | ⟨q, k⟩ | j⟩
    · trivial
    · exact h9
    · obtain ⟨a2, ci, fs, z1, z2⟩ := h9
      exact ⟨a2, ci, fs, ax_more1 _ _ z1, z2⟩
    · exact h9
theorem ax_newa_ok (X : ax_X p R s m args meth c A b γ pv own ini nL L mc ms d cc xs) {ty : FieldType} {atype : ArrayType} {b0 : ax_I ⊕ (ax_I ⊕ List (Option Nat))} {len pc : Nat} {lv : ax_L} {st : ax_K} {hp : List ax_C} {pr : List ax_V} {cn : Nat × Nat} {out : List ax_S} (hd : decode cc pc = .ok (.newarray atype, len)) (hty : newarray.typeOf atype = ty) (hin : Cond.arrayClass ty ∈ ax_W)
    (hcb : componentBytes ty ≤ 8) (g : Nat → vp_A) (hg1 : ∀ n, (g n).1 = n) (hg2 : ∀ n cA, vp_cell cA (g n) = arrV cA n (fun _ => defaultValue ty))
    (hg3 : ∀ (n : Nat) (cA : ClassId) (R : List Nat) (tys : List (ClassId × FieldType)) (t0 : Nat), tys[t0]? = some (cA, ty) → ax_cok γ R tys (.inr ((ty, n), b0)) (.inl (cA, g n)))
    (h : ax_newa ty b0 mc ms len pc lv st hp pr cn = some out) (hG : ∀ S ∈ out, ax_G p l e R s m args below meth c Q D A b γ pv nL S) : ax_G p l e R s m args below meth c Q D A b γ pv nL (pc, lv, st, hp, pr, cn) := by
  obtain ⟨⟨hx, hb, hml, hown, hts⟩, -, -, -, hA, ⟨hmc, hms, -⟩, -⟩ := X
  unfold ax_newa at h
  split at h
  · rename_i n m2 sy o r
    split at h
    · rename_i hl
      obtain ⟨hm, hn, hc1, hc2, rfl⟩ := hl
      cases h
      intro cv cs ws tys ls H locs M hls hK hP hD hS
      obtain ⟨v2, cr, rfl, e1, e2⟩ := ax_popk M.2.2.1
      obtain ⟨x, rfl, e3⟩ := ax_ok_i e1.1
      have e4 : x.toInt = (n : Int) := by
        have h1 := e3.1
        subst hm
        have h2 : Int.ofNat n = (n : Int) := rfl
        dsimp only at h1
        omega
      have e5 : ¬ x < 0 := by
        rw [Int32.lt_iff_toInt_lt, e4, show (0 : Int32).toInt = 0 by decide]
        omega
      have e6 : x.toNatClampNeg = n := by
        have : x.toNatClampNeg = x.toInt.toNat := rfl
        omega
      refine va_newa hx hb (by rw [hty]; exact hts _ hin) hty hK hP hD hS hA (hg2 n) e5 e6 (Nat.le_trans (Nat.mul_le_mul hn hcb) (by decide)) (Nat.le_trans hc1 hmc) (Nat.le_trans hc2 hms) hd (fun q cA H1 hK1 hP1 hD1 hS1 => ?_)
      exact hG _ (List.mem_singleton.mpr rfl) cv _ _ _ ls H1 locs (ax_M_push (w := (q, .inl (cA, g n))) ⟨M.1, M.2.1, e2, M.2.2.2⟩ ax_more1 (hg3 n cA _ _ tys.length (by simp))) hls hK1 hP1 hD1 hS1
    · cases h
  · cases h
def ax_cchk (e : Nat × (Nat × (Nat × (Nat × (Nat × Nat))))) : Bool := match vwCl[e.2.2.1]? with
  | some q => (decide (lw_tbl[e.2.2.2.1]? = some (.classLink (ax_nm e.1) e.2.1 q.1)) && goodWord (.classLink (ax_nm e.1) e.2.1 q.1)) && ((decide (lw_tbl[e.2.2.2.2.1]? = some (.instantiable q.1 q.2.2)) && goodWord (.instantiable q.1 q.2.2)) && (decide (lw_tbl[e.2.2.2.2.2]? = some (.initialized q.1)) && goodWord (.initialized q.1)))
  | none => false
set_option maxRecDepth 100000 in
theorem ax_cchk_ok : ax_cn.all ax_cchk = true := by decide +kernel
theorem ax_cnf_ok {o i o2 i2 ci : Nat} {pp : Nat × (Nat × Nat)} (h : ax_cnf o i = some (o2, i2, ci, pp)) : ∃ z : vw_C, vwCl[ci]? = some z ∧ Cond.classLink (ax_nm o) i z.1 ∈ ax_W ∧ Cond.instantiable z.1 z.2.2 ∈ ax_W ∧ Cond.initialized z.1 ∈ ax_W := by
  unfold ax_cnf at h
  have hm := List.mem_of_find?_eq_some h
  have hp := List.find?_some h
  simp only [Bool.and_eq_true, beq_iff_eq] at hp
  obtain ⟨rfl, rfl⟩ := hp
  have h1 := List.all_eq_true.mp ax_cchk_ok _ hm
  unfold ax_cchk at h1
  dsimp only at h1
  split at h1
  · rename_i z hz
    simp only [Bool.and_eq_true, decide_eq_true_eq] at h1
    exact ⟨z, hz, ax_in _ h1.1.1 h1.1.2, ax_in _ h1.2.1.1 h1.2.1.2, ax_in _ h1.2.2.1 h1.2.2.2⟩
  · cases h1
theorem ax_dv_ok {γ : Nat → Int} {R : List Nat} {ty : FieldType} (h : ax_dok ty = true) : ax_ok γ R (ax_dv ty) (defaultValue ty) := by
  have h0 : (0 : Int32).toInt = 0 := by decide
  have h1 : (0 : Int64).toInt = 0 := by decide
  cases ty with
  | float => cases h
  | double => cases h
  | long => show (0 : Int) ≤ (0 : Int64).toInt ∧ (0 : Int64).toInt ≤ 0; rw [h1]; exact ⟨Int.le_refl _, Int.le_refl _⟩
  | object n => exact trivial
  | array t => exact trivial
  | _ => exact ⟨⟨by show (0 : Int) ≤ (0 : Int32).toInt; rw [h0]; exact Int.le_refl _, by show (0 : Int32).toInt ≤ 0; rw [h0]; exact Int.le_refl _⟩, fun _ _ h => by cases h⟩
theorem ax_all2_map2 {α β δ : Type} {P : β → δ → Prop} {f : α → β} {g : α → δ} : ∀ {l : List α}, (∀ a ∈ l, P (f a) (g a)) → ax_all2 P (l.map f) (l.map g)
  | [], _ => trivial
  | a :: l, h => ⟨h a List.mem_cons_self, ax_all2_map2 (fun x hx => h x (List.mem_cons_of_mem _ hx))⟩
theorem ax_new_ok (X : ax_X p R s m args meth c A b γ pv own ini nL L mc ms d cc xs) {i len pc : Nat} {lv : ax_L} {st : ax_K} {hp : List ax_C} {pr : List ax_V} {cn : Nat × Nat} {out : List ax_S} (hd : decode cc pc = .ok (.new i, len)) (h : ax_new own i mc ms len pc lv st hp pr cn = some out) (hG : ∀ S ∈ out, ax_G p l e R s m args below meth c Q D A b γ pv nL S) : ax_G p l e R s m args below meth c Q D A b γ pv nL (pc, lv, st, hp, pr, cn) := by
  obtain ⟨⟨hx, hb, hml, hown, hts⟩, -, -, -, hA, ⟨hmc, hms, -⟩, -⟩ := X
  unfold ax_new at h
  split at h
  · rename_i o2 i2 ci pp hc
    split at h
    · rename_i C0 T0 N hz
      split at h
      · rename_i hl
        obtain ⟨hdo, hc1, hc2, rfl⟩ := hl
        cases h
        intro cv cs ws tys ls H locs M hls hK hP hD hS
        obtain ⟨z, z1, z2, z3, z4⟩ := ax_cnf_ok hc
        rw [hz] at z1
        cases z1
        obtain ⟨g1, g2, g3⟩ := ax_cl ci _ hz
        refine va_new (C := C0) (T := T0) (N := N) (ci := ci) (fs := (List.range N).map (fun j => defaultValue (ax_tyOf ci j))) hx hb hts g1 (ax_tyOf ci) g2 hown (hts _ z2) (hts _ z3) (hts _ z4) hK hP hD hS hA hz (fun j hj => ?_) (Nat.le_trans hc1 hmc) (Nat.le_trans hc2 hms) hd (fun q H1 hP1 hD1 hS1 => ?_)
        · unfold vp_V
          rw [List.getD_eq_getElem?_getD, List.getElem?_map, List.getElem?_range hj]
          rfl
        · refine hG _ (List.mem_singleton.mpr rfl) cv _ _ _ ls H1 locs (ax_M_push (w := (q, .inr (ci, (List.range N).map (fun j => defaultValue (ax_tyOf ci j))))) M (fun _ _ h => h) ⟨rfl, ax_all2_map2 (fun j hj => ax_dv_ok (List.all_eq_true.mp hdo j hj))⟩) hls hK hP1 hD1 hS1
      · cases h
    · cases h
  · cases h
theorem ax_newq_ok (X : ax_X p R s m args meth c A b γ pv own ini nL L mc ms d cc xs) {i len pc : Nat} {lv : ax_L} {st : ax_K} {hp : List ax_C} {pr : List ax_V} {cn : Nat × Nat} {out : List ax_S} (hd : decode cc pc = .ok (.anewarray i, len)) (h : ax_newq own i mc ms len pc lv st hp pr cn = some out) (hG : ∀ S ∈ out, ax_G p l e R s m args below meth c Q D A b γ pv nL S) : ax_G p l e R s m args below meth c Q D A b γ pv nL (pc, lv, st, hp, pr, cn) := by
  obtain ⟨⟨hx, hb, hml, hown, hts⟩, -, -, hao, hA, ⟨hmc, hms, -⟩, -⟩ := X
  unfold ax_newq at h
  split at h
  · rename_i n m2 sy o r
    split at h
    · rename_i o2 i2 ci pp hc
      split at h
      · rename_i hl
        obtain ⟨rfl, hm, hn, hc1, hc2, rfl⟩ := hl
        cases h
        intro cv cs ws tys ls H locs M hls hK hP hD hS
        obtain ⟨v2, cr, rfl, e1, e2⟩ := ax_popk M.2.2.1
        obtain ⟨x, rfl, e3⟩ := ax_ok_i e1.1
        have e4 : x.toInt = (n : Int) := by
          have h1 := e3.1
          subst hm
          have h2 : Int.ofNat n = (n : Int) := rfl
          dsimp only at h1
          omega
        have e5 : ¬ x < 0 := by
          rw [Int32.lt_iff_toInt_lt, e4, show (0 : Int32).toInt = 0 by decide]
          omega
        have e6 : x.toNatClampNeg = n := by
          have : x.toNatClampNeg = x.toInt.toNat := rfl
          omega
        obtain ⟨z, z1, z2, -⟩ := ax_cnf_ok hc
        cases z1
        refine va_newq hx hb hown (hts _ z2) hao hK hP hD hS hA e5 e6 (Nat.le_trans (Nat.mul_le_mul_right 4 hn) (by decide)) (Nat.le_trans hc1 hmc) (Nat.le_trans hc2 hms) hd (fun q cA H1 hK1 hP1 hD1 hS1 => ?_)
        exact hG _ (List.mem_singleton.mpr rfl) cv _ _ _ ls H1 locs (ax_M_push (w := (q, .inl (cA, n, .inr (.inr (.inr (.inr (fun _ => none))))))) ⟨M.1, M.2.1, e2, M.2.2.2⟩ ax_more1 ⟨rfl, ⟨tys.length, by simp⟩, fun j hj => ⟨none, by rw [List.getElem?_replicate, if_pos hj], trivial⟩⟩) hls hK1 hP1 hD1 hS1
      · cases h
    · cases h
  · cases h
end AXS4
