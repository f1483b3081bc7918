/-! ABSTRACT RUNS: fields and arrays -/
section AXS3
theorem ax_layin {ws : List Cond} {ps : List Nat} (h : ws = ps.filterMap (fun i => lw_tbl[i]?)) (hg : ws.all goodWord = true) : ∀ w ∈ ws, w ∈ ax_W := by
  intro w hw
  have h1 := List.all_eq_true.mp hg w hw
  rw [h] at hw
  obtain ⟨i, -, hi⟩ := List.mem_filterMap.mp hw
  exact ax_in i hi h1
def ax_clok (ci : Nat) (q : vw_C) : Prop := (∀ w ∈ u_ws q.1 q.2.1 q.2.2, w ∈ ax_W) ∧ (∀ k, k < q.2.2 → parseFieldDescriptor (q.2.1 k).2.2.1 = some (ax_tyOf ci k)) ∧ ∀ a, a < q.2.2 → ∀ b, b < q.2.2 → a ≠ b → (q.2.1 a).2.1 ≠ (q.2.1 b).2.1
theorem ax_cl : ∀ (ci : Nat) (q : vw_C), vwCl[ci]? = some q → ax_clok ci q
  | 0, q, h => by cases h; exact ⟨ax_layin ax_lay0 (by decide +kernel), tyX1_ok, nmX1⟩
  | 1, q, h => by cases h; exact ⟨ax_layin ax_lay1 (by decide +kernel), tyX2_ok, nmX2⟩
  | 2, q, h => by cases h; exact ⟨ax_layin ax_lay2 (by decide +kernel), tyX3_ok, nmX3⟩
  | 3, q, h => by cases h; exact ⟨ax_layin ax_lay3 (by decide +kernel), tyX4_ok, nmX4⟩
  | 4, q, h => by cases h; exact ⟨ax_layin ax_lay4 (by decide +kernel), tyX5_ok, nmX5⟩
  | 5, q, h => by cases h; exact ⟨ax_layin ax_lay5 (by decide +kernel), tyX6_ok, nmX6⟩
  | 6, q, h => by cases h; exact ⟨ax_layin ax_lay6 (by decide +kernel), tyX7_ok, nmX7⟩
  | 7, q, h => by cases h; exact ⟨ax_layin ax_lay7 (by decide +kernel), tyX9_ok, nmX9⟩
  | 8, q, h => by cases h; exact ⟨ax_layin ax_lay8 (by decide +kernel), tyX10_ok, nmX10⟩
  | 9, q, h => by cases h; exact ⟨ax_layin ax_lay9 (by decide +kernel), tyX11_ok, nmX11⟩
  | 10, q, h => by cases h; exact ⟨ax_layin ax_lay10 (by decide +kernel), tyX12_ok, nmX12⟩
  | n + 11, q, h => by cases h
def ax_fchk (o : Nat) : Bool := (ax_ft o).all (fun e => match vwCl[e.2.1]? with
  | some q => decide (e.2.2.1 < q.2.2) && (decide (lw_tbl[e.2.2.2]? = some (.fieldLink (ax_nm o) e.1 (q.2.1 e.2.2.1).1 (q.2.1 e.2.2.1).2.1 (q.2.1 e.2.2.1).2.2.1)) && goodWord (.fieldLink (ax_nm o) e.1 (q.2.1 e.2.2.1).1 (q.2.1 e.2.2.1).2.1 (q.2.1 e.2.2.1).2.2.1))
  | none => false)
set_option maxRecDepth 100000 in
theorem ax_fchk_ok : (List.range 14).all ax_fchk = true := by decide +kernel
theorem ax_fld_ok {o i ci k q : Nat} (h : ax_fld o i = some (ci, k, q)) : ∃ z : vw_C, vwCl[ci]? = some z ∧ k < z.2.2 ∧ Cond.fieldLink (ax_nm o) i (z.2.1 k).1 (z.2.1 k).2.1 (z.2.1 k).2.2.1 ∈ ax_W := by
  have hm := ax_get_mem h
  have ho : o < 14 := by
    rcases Nat.lt_or_ge o 14 with h1 | h1
    · exact h1
    · obtain ⟨n, rfl⟩ : ∃ n, o = n + 14 := ⟨o - 14, by omega⟩
      cases hm
  have h1 := List.all_eq_true.mp (List.all_eq_true.mp ax_fchk_ok o (List.mem_range.mpr ho)) _ hm
  dsimp only at h1
  split at h1
  · rename_i z hz
    simp only [Bool.and_eq_true, decide_eq_true_eq] at h1
    exact ⟨z, hz, h1.1, ax_in q h1.2.1 h1.2.2⟩
  · cases h1
theorem ax_at {b : Nat} {ws : va_W} {q a : Nat} {w : Nat × va_E} (h : (ax_RR b ws)[q + 1]? = some a) (hw : ws[q]? = some w) : w = (a, w.2) := by
  have h1 : (ws.map (fun q => q.1))[q]? = some a := by simpa [ax_RR] using h
  rw [List.getElem?_map, hw] at h1
  cases h1
  rfl
theorem ax_RR_set {b q a : Nat} {ws : va_W} {x e : va_E} (h : ws[q]? = some (a, x)) : ax_RR b (ws.set q (a, e)) = ax_RR b ws := by
  unfold ax_RR
  congr 1
  rw [List.map_set]
  apply List.ext_getElem?
  intro j
  by_cases hj : q = j
  · subst hj
    rw [List.getElem?_set_self', List.getElem?_map, h]
    rfl
  · rw [List.getElem?_set_ne hj]
theorem ax_nof_ok {γ : Nat → Int} {R : List Nat} {pv : List Value} {cv : List (Nat × Value)} {ws ws' : va_W} {st : ax_K} {cs : List Value} (h : ax_all2 (ax_sok γ R pv cv ws) st cs) : ax_all2 (ax_sok γ R pv cv ws') (ax_nof st) cs := by
  refine ax_all2_mapL _ (fun q v hq => ⟨hq.1, ?_⟩) h
  have h2 := hq.2
  rcases q with ⟨a, _ | i | ⟨q, k⟩ | j⟩
  · trivial
  · exact h2
  · trivial
  · exact h2
/-- a cell is written: the world behind it -/
theorem ax_M_set {γ : Nat → Int} {b : Nat} {pv : List Value} {lv : ax_L} {st : ax_K} {hp : List ax_C} {pr : List ax_V} {cv : List (Nat × Value)} {cs : List Value} {ws : va_W} {tys : List (ClassId × FieldType)} {q a : Nat} {x y : va_E} {c : ax_C}
    (h1 : ax_all2 (ax_ok γ (ax_RR b ws)) pr pv) (h2 : ax_lvs γ (ax_RR b ws) pv lv cv) (h3 : ax_all2 (ax_sok γ (ax_RR b ws) pv cv ws) st cs) (h4 : ax_hps γ (ax_RR b ws) tys hp ws) (hw : ws[q]? = some (a, x)) (hc : ax_cok γ (ax_RR b ws) tys c y) :
    ax_M γ b pv lv (ax_nof st) (hp.set q c) pr cv cs (ws.set q (a, y)) tys := by
  unfold ax_M
  rw [ax_RR_set hw]
  exact ⟨h1, h2, ax_nof_ok h3, ax_all2_set h4 hc⟩
theorem ax_fits_ok {γ : Nat → Int} {R : List Nat} {ty : FieldType} {a : ax_V} {v : Value} (h : ax_fits ty a = true) (hv : ax_ok γ R a v) : narrow ty v = v ∧ fits ty v = true := by
  unfold ax_fits at h
  split at h
  · obtain ⟨x, rfl, -⟩ := ax_ok_i hv
    exact ⟨rfl, rfl⟩
  · obtain ⟨x, rfl, e1⟩ := ax_ok_i hv
    simp only [Bool.and_eq_true, decide_eq_true_eq] at h
    have e2 := e1.1
    have h0 : (0 : Int32).toInt = 0 := by decide
    have h1 : (1 : Int32).toInt = 1 := by decide
    have e3 : x = 0 ∨ x = 1 := by
      rcases (show x.toInt = 0 ∨ x.toInt = 1 by omega) with z | z
      · exact Or.inl (Int32.toInt_inj.mp (by rw [z, h0]))
      · exact Or.inr (Int32.toInt_inj.mp (by rw [z, h1]))
    rcases e3 with rfl | rfl <;> exact ⟨by decide, by decide⟩
  · obtain ⟨x, rfl, -⟩ := ax_ok_l hv
    exact ⟨rfl, rfl⟩
  · rename_i n r
    rcases r with _ | r
    · cases ax_ok_n hv; exact ⟨rfl, rfl⟩
    · obtain ⟨x, rfl, -⟩ := ax_ok_r hv; exact ⟨rfl, rfl⟩
  · rename_i n r
    rcases r with _ | r
    · cases ax_ok_n hv; exact ⟨rfl, rfl⟩
    · obtain ⟨x, rfl, -⟩ := ax_ok_r hv; exact ⟨rfl, rfl⟩
  · cases h
variable {p : Program} {l : Launch} {e : Env} {R : Room} {s : State} {m : MethodId} {args : Array Value} {below : List Frame} {meth : Method} {c : Code} {Q : State → Prop} {D : va_G} {A : Nat → Prop} {b : Nat} {γ : Nat → Int} {pv : List Value} {own : Nat} {ini : Bool} {nL L mc ms d : Nat} {cc : ByteArray} {xs : Nat → Int32} {call : ax_F}
theorem ax_gf_ok (X : ax_X p R s m args meth c A b γ pv own ini nL L mc ms d cc xs) {i len pc : Nat} {lv : ax_L} {st : ax_K} {hp : List ax_C} {pr : List ax_V} {cn : Nat × Nat} {out : List ax_S} (hd : decode cc pc = .ok (.getfield i, len)) (h : ax_gf own i len pc lv st hp pr cn = some out) (hG : ∀ S ∈ out, ax_G p l e R s m args below meth c Q D A b γ pv nL S) : ax_G p l e R s m args below meth c Q D A b γ pv nL (pc, lv, st, hp, pr, cn) := by
  obtain ⟨⟨hx, hb, hml, hown, hts⟩, -⟩ := X
  unfold ax_gf at h
  split at h
  · split at h
    · rename_i q o r x x2 ci k q0 cj fs hf hq
      split at h
      · rename_i v hv
        split at h
        · rename_i hl
          obtain ⟨rfl, rfl⟩ := hl
          cases h
          intro cv cs ws tys ls H locs M hls hK hP hD hS
          obtain ⟨v1, cr, rfl, e1, e2⟩ := ax_popk M.2.2.1
          obtain ⟨a, rfl, e3⟩ := ax_ok_r e1.1
          obtain ⟨w, e4, e5⟩ := ax_all2_get M.2.2.2 hq
          have e6 := ax_at e3 e4
          obtain ⟨vs, e7, e8⟩ := ax_cok_o e5
          rw [e7] at e6
          subst e6
          obtain ⟨u, e9, e10⟩ := ax_all2_get e8 hv
          obtain ⟨z, f1, f2, f3⟩ := ax_fld_ok hf
          refine va_get (C := z.1) (T := z.2.1) (N := z.2.2) (ref := (z.2.1 k).1) hx hb hts (ax_cl ci z f1).1 hown hK hP q e4 f1 k f2 (hts _ f3) (fun _ h9 => h9) e9 hd ?_
          exact hG _ (List.mem_singleton.mpr rfl) cv _ ws tys ls H locs ⟨M.1, M.2.1, ⟨⟨e10, ⟨a, ci, vs, e4, e9⟩⟩, e2⟩, M.2.2.2⟩ hls hK hP hD hS
        · cases h
      · cases h
    · cases h
  · cases h
theorem ax_pf_ok (X : ax_X p R s m args meth c A b γ pv own ini nL L mc ms d cc xs) {i len pc : Nat} {lv : ax_L} {st : ax_K} {hp : List ax_C} {pr : List ax_V} {cn : Nat × Nat} {out : List ax_S} (hd : decode cc pc = .ok (.putfield i, len)) (h : ax_pf own ini i len pc lv st hp pr cn = some out) (hG : ∀ S ∈ out, ax_G p l e R s m args below meth c Q D A b γ pv nL S) : ax_G p l e R s m args below meth c Q D A b γ pv nL (pc, lv, st, hp, pr, cn) := by
  obtain ⟨⟨hx, hb, hml, hown, hts⟩, hini, -⟩ := X
  unfold ax_pf at h
  split at h
  · split at h
    · rename_i v ov q o r x x2 ci k q0 cj fs hf hq
      split at h
      · rename_i hl
        obtain ⟨rfl, hkl, hfit, hwr, rfl⟩ := hl
        cases h
        intro cv cs ws tys ls H locs M hls hK hP hD hS
        obtain ⟨v1, cr, rfl, d1, d2⟩ := ax_popk M.2.2.1
        obtain ⟨v2, cr, rfl, e1, e2⟩ := ax_popk d2
        obtain ⟨a, rfl, e3⟩ := ax_ok_r e1.1
        obtain ⟨w, e4, e5⟩ := ax_all2_get M.2.2.2 hq
        have e6 := ax_at e3 e4
        obtain ⟨vs, e7, e8⟩ := ax_cok_o e5
        rw [e7] at e6
        subst e6
        obtain ⟨z, f1, f2, f3⟩ := ax_fld_ok hf
        obtain ⟨g1, g2, g3⟩ := ax_cl ci z f1
        obtain ⟨n1, n2⟩ := ax_fits_ok hfit d1.1
        have hlen := ax_all2_len e8
        unfold ax_wr at hwr
        rw [f1] at hwr
        dsimp only at hwr
        split at hwr
        · rename_i hfin
          simp only [Bool.and_eq_true, decide_eq_true_eq] at hwr
          refine va_putF (C := z.1) (T := z.2.1) (N := z.2.2) (ref := (z.2.1 k).1) hx hb hts g1 (ax_tyOf ci) g2 g3 hown hK hP hD hS q e4 f1 k f2 (hts _ f3) (fun _ h9 => h9) hfin (hini hwr.1) hwr.2 (g2 k f2) n1 n2 (by rw [← hlen]; exact hkl) hd (fun H1 locs1 hP1 hD1 hS1 => ?_)
          exact hG _ (List.mem_singleton.mpr rfl) cv _ _ tys ls H1 locs1 (ax_M_set (y := .inr (ci, vs.set k v1)) M.1 M.2.1 e2 M.2.2.2 e4 ⟨rfl, ax_all2_set e8 d1.1⟩) hls hK hP1 hD1 hS1
        · rename_i hfin
          refine va_put (C := z.1) (T := z.2.1) (N := z.2.2) (ref := (z.2.1 k).1) hx hb hts g1 (ax_tyOf ci) g2 g3 hown hK hP hD hS q e4 f1 k f2 (hts _ f3) (fun _ h9 => h9) (by simpa using hfin) (g2 k f2) n1 n2 (by rw [← hlen]; exact hkl) hd (fun H1 locs1 hP1 hD1 hS1 => ?_)
          exact hG _ (List.mem_singleton.mpr rfl) cv _ _ tys ls H1 locs1 (ax_M_set (y := .inr (ci, vs.set k v1)) M.1 M.2.1 e2 M.2.2.2 e4 ⟨rfl, ax_all2_set e8 d1.1⟩) hls hK hP1 hD1 hS1
      · cases h
    · cases h
  · cases h
theorem ax_ain_ok {a : ax_N} {n : Nat} {x : Int32} (h : ax_ain a n = true) (hx : ax_nok γ a x.toInt) : vp_in x n ∧ x.toNatClampNeg < n ∧ (x.toNatClampNeg : Int) = x.toInt := by
  unfold ax_ain at h
  simp only [Bool.and_eq_true, decide_eq_true_eq] at h
  have h1 := hx.1
  have h2 : x.toNatClampNeg = x.toInt.toNat := rfl
  exact ⟨vp_in_iff.mpr ⟨by omega, by omega⟩, by omega, by omega⟩
theorem ax_nums_ok {hp : List ax_C} {k : Nat} {ty : FieldType} {n : Nat} {iv : ax_I} (h : ax_nums hp k = some (ty, n, iv)) : ∃ q, k = q + 1 ∧ hp[q]? = some (.inr ((ty, n), .inl iv)) := by
  unfold ax_nums at h
  split at h
  · cases h
  · rename_i q
    split at h
    · rename_i hq
      cases h
      exact ⟨q, rfl, hq⟩
    · cases h
theorem ax_xld_ok {ts : List FieldType} {len pc : Nat} {lv : ax_L} {st : ax_K} {hp : List ax_C} {pr : List ax_V} {cn : Nat × Nat} {out : List ax_S}
    (row : ∀ ty ∈ ts, len = 1 → ∀ {H : Heap} {locs : List Loc} {ls : Array Slot} {rest : List Value} {ws : va_W} {tys : List (ClassId × FieldType)} {q t0 a n : Nat} {cA : ClassId} {f : Nat → Int32} {x : Int32}, va_K D vwCl tys s → va_P D vwCl ws H → ws[q]? = some (a, .inl (cA, n, .inl f)) → tys[t0]? = some (cA, ty) → vp_in x n → W p l e R s m args below meth c H locs cn.1 cn.2 Q (F0 m (pc + 1) ls (.int (f x.toNatClampNeg) :: rest)) → W p l e R s m args below meth c H locs cn.1 cn.2 Q (F0 m pc ls (.int x :: .ref a :: rest)))
    (h : ax_xld ts len pc lv st hp pr cn = some out) (hG : ∀ S ∈ out, ax_G p l e R s m args below meth c Q D A b γ pv nL S) : ax_G p l e R s m args below meth c Q D A b γ pv nL (pc, lv, st, hp, pr, cn) := by
  unfold ax_xld at h
  split at h
  · split at h
    · rename_i ty n iv hn
      split at h
      · rename_i hl
        obtain ⟨ha, hty, hlen⟩ := hl
        cases h
        intro cv cs ws tys ls H locs M hls hK hP hD hS
        obtain ⟨v1, cr, rfl, d1, d2⟩ := ax_popk M.2.2.1
        obtain ⟨v2, cr, rfl, e1, e2⟩ := ax_popk d2
        obtain ⟨x, rfl, d3⟩ := ax_ok_i d1.1
        obtain ⟨a, rfl, e3⟩ := ax_ok_r e1.1
        obtain ⟨q, rfl, hq⟩ := ax_nums_ok hn
        obtain ⟨w, e4, e5⟩ := ax_all2_get M.2.2.2 hq
        have e6 := ax_at e3 e4
        obtain ⟨cA, f, e7, ⟨t0, e8⟩, e9⟩ := ax_cok_n e5
        rw [e7] at e6
        subst e6
        obtain ⟨k1, k2, k3⟩ := ax_ain_ok ha d3
        refine row ty hty hlen hK hP e4 e8 k1 ?_
        exact hG _ (List.mem_singleton.mpr rfl) cv _ ws tys ls H locs ⟨M.1, M.2.1, ⟨⟨⟨e9 _ k2, fun _ _ h => by cases h⟩, trivial⟩, e2⟩, M.2.2.2⟩ hls hK hP hD hS
      · cases h
    · cases h
  · cases h
theorem ax_sld_ok (X : ax_X p R s m args meth c A b γ pv own ini nL L mc ms d cc xs) {len pc : Nat} {lv : ax_L} {st : ax_K} {hp : List ax_C} {pr : List ax_V} {cn : Nat × Nat} {out : List ax_S} (hd : decode cc pc = .ok (.iaload, len)) (h : ax_sld L len pc lv st hp pr cn = some out) (hG : ∀ S ∈ out, ax_G p l e R s m args below meth c Q D A b γ pv nL S) : ax_G p l e R s m args below meth c Q D A b γ pv nL (pc, lv, st, hp, pr, cn) := by
  obtain ⟨⟨hx, hb, hml, hown, hts⟩, -, -, -, -, -, hsc⟩ := X
  unfold ax_sld at h
  split at h
  · split at h
    · rename_i x1 j hs
      split at h
      · rename_i x2 v hv
        split at h
        · rename_i hl
          obtain ⟨ha, rfl⟩ := hl
          cases h
          intro cv cs ws tys ls H locs M hls hK hP hD hS
          obtain ⟨v1, cr, rfl, d1, d2⟩ := ax_popk M.2.2.1
          obtain ⟨v2, cr, rfl, e1, e2⟩ := ax_popk d2
          obtain ⟨x, rfl, d3⟩ := ax_ok_i d1.1
          obtain ⟨a, rfl, e3⟩ := ax_ok_r e1.1
          obtain ⟨k1, k2, k3⟩ := ax_ain_ok ha d3
          obtain ⟨s1, s2, s3, s4⟩ := hsc (by omega)
          have e4 : b = a := by simpa [ax_RR] using e3
          subst e4
          obtain ⟨vv2, f1, f2⟩ := ax_all2_get M.1 hv
          have f3 := s4 _ _ f1
          have f4 : x.toInt = γ 0 + (Int.ofNat j) := d3.2 _ _ hs
          have f5 : (γ 0 + (j : Int)).toNat = x.toNatClampNeg := by
            have : Int.ofNat j = (j : Int) := rfl
            omega
          rw [f5] at f3
          subst f3
          refine va_sld hx hb s1 s2 s3 hS k1 hd ?_
          exact hG _ (List.mem_singleton.mpr rfl) cv _ ws tys ls H locs ⟨M.1, M.2.1, ⟨⟨f2, f1⟩, e2⟩, M.2.2.2⟩ hls hK hP hD hS
        · cases h
      · cases h
    · cases h
  · cases h
theorem ax_iald_ok (X : ax_X p R s m args meth c A b γ pv own ini nL L mc ms d cc xs) {len pc : Nat} {lv : ax_L} {st : ax_K} {hp : List ax_C} {pr : List ax_V} {cn : Nat × Nat} {out : List ax_S} (hd : decode cc pc = .ok (.iaload, len)) (h : ax_iald L len pc lv st hp pr cn = some out) (hG : ∀ S ∈ out, ax_G p l e R s m args below meth c Q D A b γ pv nL S) : ax_G p l e R s m args below meth c Q D A b γ pv nL (pc, lv, st, hp, pr, cn) := by
  unfold ax_iald at h
  split at h
  · exact ax_sld_ok X hd h hG
  · obtain ⟨⟨hx, hb, hml, hown, hts⟩, -⟩ := X
    refine ax_xld_ok (fun ty hty hlen => ?_) h hG
    cases List.mem_singleton.mp hty
    subst hlen
    intro H locs ls rest ws tys q t0 a n cA f x hK hP h1 h2 h3 kk
    exact va_iald hx hb hK hP q t0 h1 h2 h3 hd kk
theorem ax_bald_ok (X : ax_X p R s m args meth c A b γ pv own ini nL L mc ms d cc xs) {len pc : Nat} {lv : ax_L} {st : ax_K} {hp : List ax_C} {pr : List ax_V} {cn : Nat × Nat} {out : List ax_S} (hd : decode cc pc = .ok (.baload, len)) (h : ax_xld [.byte, .boolean] len pc lv st hp pr cn = some out) (hG : ∀ S ∈ out, ax_G p l e R s m args below meth c Q D A b γ pv nL S) : ax_G p l e R s m args below meth c Q D A b γ pv nL (pc, lv, st, hp, pr, cn) := by
  obtain ⟨⟨hx, hb, hml, hown, hts⟩, -⟩ := X
  refine ax_xld_ok (fun ty hty hlen => ?_) h hG
  subst hlen
  intro H locs ls rest ws tys q t0 a n cA f x hK hP h1 h2 h3 kk
  rcases List.mem_cons.mp hty with rfl | hty
  · exact va_bald hx hb hK hP q t0 h1 h2 h3 hd kk
  · cases List.mem_singleton.mp hty
    exact va_zald hx hb hK hP q t0 h1 h2 h3 hd kk
theorem ax_lald_ok (X : ax_X p R s m args meth c A b γ pv own ini nL L mc ms d cc xs) {len pc : Nat} {lv : ax_L} {st : ax_K} {hp : List ax_C} {pr : List ax_V} {cn : Nat × Nat} {out : List ax_S} (hd : decode cc pc = .ok (.laload, len)) (h : ax_lald len pc lv st hp pr cn = some out) (hG : ∀ S ∈ out, ax_G p l e R s m args below meth c Q D A b γ pv nL S) : ax_G p l e R s m args below meth c Q D A b γ pv nL (pc, lv, st, hp, pr, cn) := by
  obtain ⟨⟨hx, hb, hml, hown, hts⟩, -⟩ := X
  unfold ax_lald at h
  split at h
  · split at h
    · rename_i ai o1 q o2 r x n iv hq
      split at h
      · rename_i hl
        obtain ⟨ha, rfl⟩ := hl
        cases h
        intro cv cs ws tys ls H locs M hls hK hP hD hS
        obtain ⟨v1, cr, rfl, d1, d2⟩ := ax_popk M.2.2.1
        obtain ⟨v2, cr, rfl, e1, e2⟩ := ax_popk d2
        obtain ⟨x, rfl, d3⟩ := ax_ok_i d1.1
        obtain ⟨a, rfl, e3⟩ := ax_ok_r e1.1
        obtain ⟨w, e4, e5⟩ := ax_all2_get M.2.2.2 hq
        have e6 := ax_at e3 e4
        obtain ⟨cA, f, e7, ⟨t0, e8⟩, e9⟩ := ax_cok_l e5
        rw [e7] at e6
        subst e6
        obtain ⟨k1, k2, k3⟩ := ax_ain_ok ha d3
        refine va_lald hx hb hK hP q t0 e4 e8 k1 hd ?_
        exact hG _ (List.mem_singleton.mpr rfl) cv _ ws tys ls H locs ⟨M.1, M.2.1, ⟨⟨e9 _ k2, trivial⟩, e2⟩, M.2.2.2⟩ hls hK hP hD hS
      · cases h
    · cases h
  · cases h
theorem ax_alds_ok {rs : List (Option Nat)} {oa : ax_O} {pc : Nat} {lv : ax_L} {r : ax_K} {hp : List ax_C} {pr : List ax_V} {cn : Nat × Nat} : ∀ {f j : Nat} {out : List ax_S}, ax_alds rs oa pc lv r hp pr cn f j = some out → ∀ i : Nat, j ≤ i → i < j + f → ∃ x, rs[i]? = some x ∧ (pc, (ax_ref oa ((i : Int), (i : Int)) (lv, hp, pr)).1, (Sum.inr (Sum.inr x), none) :: r, (ax_ref oa ((i : Int), (i : Int)) (lv, hp, pr)).2.1, (ax_ref oa ((i : Int), (i : Int)) (lv, hp, pr)).2.2, cn) ∈ out
  | 0, j, out, _, i, h1, h2 => by omega
  | f + 1, j, out, h, i, h1, h2 => by
    unfold ax_alds at h
    split at h
    · rename_i x l hx hs
      cases h
      by_cases hi : i = j
      · subst hi
        exact ⟨x, hx, List.mem_cons_self⟩
      · obtain ⟨x2, k1, k2⟩ := ax_alds_ok hs i (by omega) (by omega)
        exact ⟨x2, k1, List.mem_cons_of_mem _ k2⟩
    · cases h
theorem ax_aald_ok (X : ax_X p R s m args meth c A b γ pv own ini nL L mc ms d cc xs) {len pc : Nat} {lv : ax_L} {st : ax_K} {hp : List ax_C} {pr : List ax_V} {cn : Nat × Nat} {out : List ax_S} (hd : decode cc pc = .ok (.aaload, len)) (h : ax_aald len pc lv st hp pr cn = some out) (hG : ∀ S ∈ out, ax_G p l e R s m args below meth c Q D A b γ pv nL S) : ax_G p l e R s m args below meth c Q D A b γ pv nL (pc, lv, st, hp, pr, cn) := by
  obtain ⟨⟨hx, hb, hml, hown, hts⟩, -⟩ := X
  unfold ax_aald at h
  split at h
  · split at h
    · rename_i ai o1 q o2 r x C n rs hq
      split at h
      · rename_i hl
        obtain ⟨ha, rfl⟩ := hl
        intro cv cs ws tys ls H locs M hls hK hP hD hS
        obtain ⟨v1, cr, rfl, d1, d2⟩ := ax_popk M.2.2.1
        obtain ⟨v2, cr, rfl, e1, e2⟩ := ax_popk d2
        obtain ⟨x, rfl, d3⟩ := ax_ok_i d1.1
        obtain ⟨a, rfl, e3⟩ := ax_ok_r e1.1
        obtain ⟨w, e4, e5⟩ := ax_all2_get M.2.2.2 hq
        have e6 := ax_at e3 e4
        obtain ⟨cA, f, e7, ⟨t0, e8⟩, e9⟩ := ax_cok_q e5
        rw [e7] at e6
        subst e6
        obtain ⟨k1, k2, k3⟩ := ax_ain_ok ha d3
        refine va_aldq hx hb hK hP q t0 e4 e8 k1 hd ?_
        have hbd := d3.1
        have ha2 := ha
        unfold ax_ain at ha2
        simp only [Bool.and_eq_true, decide_eq_true_eq] at ha2
        obtain ⟨y, g1, g2⟩ := ax_alds_ok h x.toNatClampNeg (by omega) (by omega)
        obtain ⟨y2, g3, g4⟩ := e9 _ k2
        rw [g1] at g3
        cases g3
        have M1 := ax_ref_ok (iv := ((x.toNatClampNeg : Int), (x.toNatClampNeg : Int))) d1.2 ⟨by rw [k3]; exact Int.le_refl _, by rw [k3]; exact Int.le_refl _⟩ (show ax_M γ b pv lv r hp pr cv cr ws tys from ⟨M.1, M.2.1, e2, M.2.2.2⟩)
        exact hG _ g2 cv _ ws tys ls H locs ⟨M1.1, M1.2.1, ⟨⟨ax_rok_v g4, trivial⟩, M1.2.2.1⟩, M1.2.2.2⟩ hls hK hP hD hS
      · cases h
    · cases h
  · cases h
theorem ax_alen_ok (X : ax_X p R s m args meth c A b γ pv own ini nL L mc ms d cc xs) {len pc : Nat} {lv : ax_L} {st : ax_K} {hp : List ax_C} {pr : List ax_V} {cn : Nat × Nat} {out : List ax_S} (hd : decode cc pc = .ok (.arraylength, len)) (h : ax_alen L len pc lv st hp pr cn = some out) (hG : ∀ S ∈ out, ax_G p l e R s m args below meth c Q D A b γ pv nL S) : ax_G p l e R s m args below meth c Q D A b γ pv nL (pc, lv, st, hp, pr, cn) := by
  obtain ⟨⟨hx, hb, hml, hown, hts⟩, -, -, -, -, -, hsc⟩ := X
  unfold ax_alen at h
  split at h
  · split at h
    · rename_i hl
      obtain ⟨rfl, hL, hL2⟩ := hl
      cases h
      intro cv cs ws tys ls H locs M hls hK hP hD hS
      obtain ⟨v2, cr, rfl, e1, e2⟩ := ax_popk M.2.2.1
      obtain ⟨a, rfl, e3⟩ := ax_ok_r e1.1
      obtain ⟨s1, s2, s3, s4⟩ := hsc hL
      have e4 : b = a := by simpa [ax_RR] using e3
      subst e4
      refine va_slen hx hb s1 s2 s3 hS hd ?_
      have e5 : (Int32.ofNat (L - 1)).toInt = ((L - 1 : Nat) : Int) := nI_toInt (by omega)
      exact hG _ (List.mem_singleton.mpr rfl) cv _ ws tys ls H locs ⟨M.1, M.2.1, ⟨⟨⟨by rw [e5]; exact ⟨Int.le_refl _, Int.le_refl _⟩, fun _ _ h => by cases h⟩, trivial⟩, e2⟩, M.2.2.2⟩ hls hK hP hD hS
    · cases h
  · split at h
    · rename_i q o r x ty n bd hq
      split at h
      · rename_i hl
        obtain ⟨rfl, hn⟩ := hl
        cases h
        intro cv cs ws tys ls H locs M hls hK hP hD hS
        obtain ⟨v2, cr, rfl, e1, e2⟩ := ax_popk M.2.2.1
        obtain ⟨a, rfl, e3⟩ := ax_ok_r e1.1
        obtain ⟨w, e4, e5⟩ := ax_all2_get M.2.2.2 hq
        have e6 := ax_at e3 e4
        have e7 : ∃ (cA : ClassId) (x : vp_A) (t0 : Nat), w.2 = .inl (cA, x) ∧ x.1 = n ∧ tys[t0]? = some (cA, ty) := by
          rcases bd with iv | iv | rs
          · obtain ⟨cA, f, e7, ⟨t0, e8⟩, e9⟩ := ax_cok_n e5
            exact ⟨cA, _, t0, e7, rfl, e8⟩
          · obtain ⟨cA, f, e7, ⟨t0, e8⟩, e9⟩ := ax_cok_l e5
            exact ⟨cA, _, t0, e7, rfl, e8⟩
          · obtain ⟨cA, f, e7, ⟨t0, e8⟩, e9⟩ := ax_cok_q e5
            exact ⟨cA, _, t0, e7, rfl, e8⟩
        obtain ⟨cA, y, t0, e7, e8, e9⟩ := e7
        rw [e7] at e6
        subst e6
        refine va_alen hx hb hK hP q t0 e4 e9 rfl hd ?_
        have e10 : (Int32.ofNat y.1).toInt = (n : Int) := by rw [e8]; exact nI_toInt (by omega)
        exact hG _ (List.mem_singleton.mpr rfl) cv _ ws tys ls H locs ⟨M.1, M.2.1, ⟨⟨⟨by rw [e10]; exact ⟨Int.le_refl _, Int.le_refl _⟩, fun _ _ h => by cases h⟩, trivial⟩, e2⟩, M.2.2.2⟩ hls hK hP hD hS
      · cases h
    · cases h
  · cases h
end AXS3
