/-! THE PURE MACHINE: fields and arrays are sound -/
section PMS2
theorem pm_at {b : Nat} {sa : List Nat} {ws : va_W} {q a : Nat} {w : Nat × va_E} (h : (pm_RR b ws sa)[q + 1]? = some a) (hw : ws[q]? = some w) : w = (a, w.2) := by
  have hl : q < ws.length := (List.getElem?_eq_some_iff.mp hw).1
  have h1 : (ws.map (fun q => q.1) ++ sa)[q]? = some a := by simpa [pm_RR] using h
  rw [List.getElem?_append_left (by simpa using hl), List.getElem?_map, hw] at h1
  cases h1
  rfl
theorem pm_RR_set {b q a : Nat} {sa : List Nat} {ws : va_W} {x e : va_E} (h : ws[q]? = some (a, x)) : pm_RR b (ws.set q (a, e)) sa = pm_RR b ws sa := by
  have h1 := ax_RR_set (b := b) (e := e) h
  unfold ax_RR at h1
  unfold pm_RR
  rw [(List.cons.inj h1).2]
theorem pm_cok_congr {R : List Nat} {tys : List (ClassId × FieldType)} {σ τ : pm_H} {q : Nat} {c : pm_C} {w : va_E} (e : τ q = σ q) (h : pm_cok R tys σ q c w) : pm_cok R tys τ q c w := by
  unfold pm_cok at h ⊢
  split at h
  · obtain ⟨vs, h1, h2, h3⟩ := h
    refine ⟨vs, h1, h2, fun k f v hf hv => ?_⟩
    have h4 := h3 k f v hf hv
    unfold pm_fok at h4 ⊢
    rw [e]
    exact h4
  · rw [e]; exact h
  · exact h
theorem pm_sh_len {q : Nat} {c : pm_C} (h : pm_sh[q]? = some c) : q < pm_sh.length := (List.getElem?_eq_some_iff.mp h).1
/-- a cell is written: the world behind it -/
theorem pm_hps_set {b L : Nat} {sa wa : List Nat} {xs : Nat → Int32} {σ τ : pm_H} {ws : va_W} {tys : List (ClassId × FieldType)} {q a : Nat} {x y : va_E} {c : pm_C} (h : pm_hps b sa wa L xs σ ws tys) (hc : pm_sh[q]? = some c) (hw : ws[q]? = some (a, x)) (hy : pm_cok (pm_RR b ws sa) tys τ (q + 1) c y) (he : ∀ k, k ≠ q + 1 → τ k = σ k) : pm_hps b sa wa L xs τ (ws.set q (a, y)) tys := by
  obtain ⟨h1, h2, h3, h4, h5⟩ := h
  have hl := pm_sh_len hc
  refine ⟨by rw [List.length_set]; exact h1, ?_, ?_, ?_, ?_⟩
  · intro k c2 w hk hw2
    rw [pm_RR_set hw]
    by_cases hkq : q = k
    · subst hkq
      rw [hc] at hk
      cases hk
      rw [List.getElem?_set_self (by rw [h1]; exact hl)] at hw2
      cases hw2
      exact hy
    · rw [List.getElem?_set_ne hkq] at hw2
      exact pm_cok_congr (he _ (by omega)) (h2 k c2 w hk hw2)
  · intro k q2 hq2 j hj
    rw [he _ (by omega)]
    exact h3 k q2 hq2 j hj
  · intro hL j hj
    rw [he 0 (by omega)]
    exact h4 hL j hj
  · have h6 := ax_RR_set (b := b) (e := y) hw
    unfold ax_RR at h6
    rw [(List.cons.inj h6).2]
    exact h5
theorem pm_up_ne {σ : pm_H} {q k : Nat} {i v : Int} (h : k ≠ q) : pm_up σ q i v k = σ k := by
  funext j
  unfold pm_up
  rw [if_neg (fun z => h z.1)]
theorem pm_up_eq {σ : pm_H} {q : Nat} {i j v : Int} : pm_up σ q i v q j = if j = i then v else σ q j := by
  unfold pm_up
  simp only [true_and]
theorem pm_arr_w {k n : Nat} {ty : FieldType} (h : pm_arr 0 k = some (ty, n, true)) : ∃ q, k = q + 1 ∧ pm_sh[q]? = some (.inr ((ty, n), none)) := by
  unfold pm_arr at h
  split at h
  · simp at h
  · rename_i q
    split at h
    · rename_i hq
      cases h
      exact ⟨q, rfl, hq⟩
    · cases h
    · obtain ⟨z, h1, h2⟩ := Option.map_eq_some_iff.mp h
      cases h2
/-- where an array of numbers lies: the script, the world, the static arrays -/
theorem pm_arr_c {L k n : Nat} {ty : FieldType} {w : Bool} (h : pm_arr L k = some (ty, n, w)) : (k = 0 ∧ 0 < L ∧ ty = .int ∧ n = L - 1) ∨ (∃ q, k = q + 1 ∧ pm_sh[q]? = some (.inr ((ty, n), none))) ∨ ∃ (j : Nat) (z : (String × String) × (FieldType × List Int)), k = pm_sh.length + 1 + j ∧ pm_ss[j]? = some z ∧ ty = z.2.1 ∧ n = z.2.2.length := by
  unfold pm_arr at h
  split at h
  · split at h
    · rename_i hL
      cases h
      exact Or.inl ⟨rfl, hL, rfl, rfl⟩
    · cases h
  · rename_i q
    split at h
    · rename_i hq
      cases h
      exact Or.inr (Or.inl ⟨q, rfl, hq⟩)
    · cases h
    · rename_i hq
      obtain ⟨z, h1, h2⟩ := Option.map_eq_some_iff.mp h
      cases h2
      have h3 : pm_sh.length ≤ q := by
        rcases Nat.lt_or_ge q pm_sh.length with h5 | h5
        · rw [List.getElem?_eq_getElem h5] at hq
          cases hq
        · exact h5
      exact Or.inr (Or.inr ⟨q - pm_sh.length, z, by omega, h1, rfl, rfl⟩)
theorem pm_in {n : Nat} {x : Int32} (h : 0 ≤ x.toInt ∧ x.toInt < (n : Int)) : vp_in x n ∧ x.toNatClampNeg < n ∧ (x.toNatClampNeg : Int) = x.toInt := by
  have h2 : x.toNatClampNeg = x.toInt.toNat := rfl
  exact ⟨vp_in_iff.mpr h, by omega, by omega⟩
def pm_rng (z : Int) (ty : FieldType) : Bool := match ty with
  | .long => decide ((Int64.ofInt z).toInt = z)
  | _ => decide ((Int32.ofInt z).toInt = z)
theorem pm_ss_rng : pm_ss.all (fun q => q.2.2.all (fun z => pm_rng z q.2.1)) = true := by decide +kernel
theorem pm_ss_val {k j : Nat} {q : (String × String) × (FieldType × List Int)} (h : pm_ss[k]? = some q) (hj : j < q.2.2.length) : pm_rng (q.2.2.getD j 0) q.2.1 = true := by
  have h1 := List.all_eq_true.mp pm_ss_rng q (List.mem_of_getElem? h)
  refine List.all_eq_true.mp h1 _ ?_
  rw [List.getD_eq_getElem?_getD, List.getElem?_eq_getElem hj]
  exact List.getElem_mem hj
theorem pm_sa {b : Nat} {sa : List Nat} {ws : va_W} {j a : Nat} (hl : ws.length = pm_sh.length) (h : (pm_RR b ws sa)[pm_sh.length + 1 + j]? = some a) : sa[j]? = some a := by
  have h1 : (ws.map (fun q => q.1) ++ sa)[pm_sh.length + j]? = some a := by
    unfold pm_RR at h
    rw [show pm_sh.length + 1 + j = (pm_sh.length + j) + 1 by omega, List.getElem?_cons_succ] at h
    exact h
  rw [List.getElem?_append_right (by simp [hl]), List.length_map, hl, Nat.add_sub_cancel_left] at h1
  exact h1
variable {p : Program} {l : Launch} {e : Env} {R : Room} {s : State} {m : MethodId} {args : Array Value} {below : List Frame} {meth : Method} {c : Code} {Q : State → Prop} {D : va_G} {A : Nat → Prop} {b own nL L1 L d : Nat} {cc : ByteArray} {xs : Nat → Int32} {sa wa : List Nat} {cn : Nat × Nat} {call : pm_Call} {Qr : pm_Q} {len pc : Nat} {lv : pm_L} {st : List pm_V} {σ : pm_H} {o : pm_N}
theorem pm_gf_ok (X : pm_X p R s m args c A b own nL L1 L d cc xs sa cn) {i : Nat} (hd : decode cc pc = .ok (.getfield i, len)) (h : pm_gf own i len pc lv st σ = some o) (hG : pm_NG call Qr σ (pm_G p l e R s m args below meth c Q D A b nL L xs sa wa cn) o) : pm_G p l e R s m args below meth c Q D A b nL L xs sa wa cn (pc, lv, st, σ) := by
  obtain ⟨⟨hx, hb, hml, hown, hts⟩, -⟩ := X
  unfold pm_gf at h
  split at h
  · split at h
    · rename_i q r x x2 ci k q0 cj fs hf hq
      obtain ⟨z, f1, f2, f3⟩ := ax_fld_ok hf
      split at h
      · rename_i hv
        split at h
        · rename_i hl
          obtain ⟨rfl, rfl⟩ := hl
          have g := pm_go_G h hG
          intro cv cs ws tys ls H locs M hls hK hP hD hS
          obtain ⟨v1, cr, rfl, e1, e2⟩ := ax_popk M.2.1
          obtain ⟨a, rfl, e3⟩ := pm_ok_r e1
          have hql := pm_sh_len hq
          obtain ⟨w, e4⟩ : ∃ w, ws[q]? = some w := ⟨_, List.getElem?_eq_getElem (by rw [M.2.2.1]; exact hql)⟩
          have e6 := pm_at e3 e4
          obtain ⟨vs, e7, e8, e9⟩ := M.2.2.2.1 q _ w hq e4
          rw [e7] at e6
          subst e6
          obtain ⟨u, hu⟩ : ∃ u, vs[k]? = some u := ⟨_, List.getElem?_eq_getElem (by rw [← e8]; exact (List.getElem?_eq_some_iff.mp hv).1)⟩
          obtain ⟨y, rfl, e10⟩ := e9 k _ u hv hu
          refine va_get (C := z.1) (T := z.2.1) (N := z.2.2) (ref := (z.2.1 k).1) hx hb hts (ax_cl ci z f1).1 hown hK hP q e4 f1 k f2 (hts _ f3) (fun _ h9 => h9) hu hd ?_
          exact g cv _ ws tys ls H locs ⟨M.1, ⟨e10, e2⟩, M.2.2⟩ hls hK hP hD hS
        · cases h
      · rename_i y hv
        split at h
        · rename_i hl
          obtain ⟨rfl, rfl⟩ := hl
          have g := pm_go_G h hG
          intro cv cs ws tys ls H locs M hls hK hP hD hS
          obtain ⟨v1, cr, rfl, e1, e2⟩ := ax_popk M.2.1
          obtain ⟨a, rfl, e3⟩ := pm_ok_r e1
          have hql := pm_sh_len hq
          obtain ⟨w, e4⟩ : ∃ w, ws[q]? = some w := ⟨_, List.getElem?_eq_getElem (by rw [M.2.2.1]; exact hql)⟩
          have e6 := pm_at e3 e4
          obtain ⟨vs, e7, e8, e9⟩ := M.2.2.2.1 q _ w hq e4
          rw [e7] at e6
          subst e6
          obtain ⟨u, hu⟩ : ∃ u, vs[k]? = some u := ⟨_, List.getElem?_eq_getElem (by rw [← e8]; exact (List.getElem?_eq_some_iff.mp hv).1)⟩
          have e10 := e9 k _ u hv hu
          refine va_get (C := z.1) (T := z.2.1) (N := z.2.2) (ref := (z.2.1 k).1) hx hb hts (ax_cl ci z f1).1 hown hK hP q e4 f1 k f2 (hts _ f3) (fun _ h9 => h9) hu hd ?_
          exact g cv _ ws tys ls H locs ⟨M.1, ⟨e10, e2⟩, M.2.2⟩ hls hK hP hD hS
        · cases h
      · cases h
    · cases h
  · cases h
theorem pm_fit_ok {ty : FieldType} {x : Int32} (h : pm_fit ty x.toInt) : narrow ty (.int x) = .int x ∧ fits ty (.int x) = true := by
  unfold pm_fit at h
  split at h
  · exact ⟨rfl, rfl⟩
  · have h0 : (0 : Int32).toInt = 0 := by decide
    have h1 : (1 : Int32).toInt = 1 := by decide
    have e3 : x = 0 ∨ x = 1 := by
      rcases (show x.toInt = 0 ∨ x.toInt = 1 by omega) with z | z
      · exact Or.inl (Int32.toInt_inj.mp (by rw [z, h0]))
      · exact Or.inr (Int32.toInt_inj.mp (by rw [z, h1]))
    rcases e3 with rfl | rfl <;> exact ⟨by decide, by decide⟩
  · exact h.elim
theorem pm_pf_ok (X : pm_X p R s m args c A b own nL L1 L d cc xs sa cn) {i : Nat} (hd : decode cc pc = .ok (.putfield i, len)) (h : pm_pf own i len pc lv st σ = some o) (hG : pm_NG call Qr σ (pm_G p l e R s m args below meth c Q D A b nL L xs sa wa cn) o) : pm_G p l e R s m args below meth c Q D A b nL L xs sa wa cn (pc, lv, st, σ) := by
  obtain ⟨⟨hx, hb, hml, hown, hts⟩, -⟩ := X
  unfold pm_pf at h
  split at h
  · split at h
    · rename_i v q r x x2 ci k q0 cj fs hf hq
      obtain ⟨z, f1, f2, f3⟩ := ax_fld_ok hf
      split at h
      · rename_i hv
        split at h
        · rename_i hl
          obtain ⟨rfl, hwr, rfl⟩ := hl
          cases h
          intro cv cs ws tys ls H locs M hls hK hP hD hS
          obtain ⟨v1, cr, rfl, d1, d2⟩ := ax_popk M.2.1
          obtain ⟨v2, cr, rfl, e1, e2⟩ := ax_popk d2
          obtain ⟨y, rfl, d3⟩ := pm_ok_i d1
          obtain ⟨a, rfl, e3⟩ := pm_ok_r e1
          subst d3
          have hql := pm_sh_len hq
          obtain ⟨w, e4⟩ : ∃ w, ws[q]? = some w := ⟨_, List.getElem?_eq_getElem (by rw [M.2.2.1]; exact hql)⟩
          have e6 := pm_at e3 e4
          obtain ⟨vs, e7, e8, e9⟩ := M.2.2.2.1 q _ w hq e4
          rw [e7] at e6
          subst e6
          obtain ⟨g1, g2, g3⟩ := ax_cl ci z f1
          obtain ⟨n1, n2⟩ := pm_fit_ok hG.1
          have hkl : k < vs.length := by rw [← e8]; exact (List.getElem?_eq_some_iff.mp hv).1
          have hfin : ¬ (z.2.1 k).2.2.2 = true := by
            intro hfin
            unfold ax_wr at hwr
            rw [f1] at hwr
            dsimp only at hwr
            rw [if_pos hfin] at hwr
            simp at hwr
          refine va_put (C := z.1) (T := z.2.1) (N := z.2.2) (ref := (z.2.1 k).1) hx hb hts g1 (ax_tyOf ci) g2 g3 hown hK hP hD hS q e4 f1 k f2 (hts _ f3) (fun _ h9 => h9) (by simpa using hfin) (g2 k f2) n1 n2 hkl hd (fun H1 locs1 hP1 hD1 hS1 => ?_)
          have hps := pm_hps_set (τ := pm_up σ (q + 1) (k : Int) y.toInt) (y := .inr (ci, vs.set k (.int y))) M.2.2 hq e4 ⟨vs.set k (.int y), rfl, by rw [List.length_set]; exact e8, fun j f u hf2 hu => ?_⟩ (fun j hj => pm_up_ne hj)
          · have hps2 := hG.2 _ (List.mem_singleton.mpr rfl) trivial cv cr (ws.set q (a, .inr (ci, vs.set k (.int y)))) tys ls H1 locs1
            refine hps2 ⟨?_, ?_, hps⟩ hls hK hP1 hD1 hS1
            · rw [pm_RR_set e4]; exact M.1
            · rw [pm_RR_set e4]; exact e2
          · by_cases hkj : k = j
            · subst hkj
              rw [hv] at hf2
              cases hf2
              rw [List.getElem?_set_self hkl] at hu
              cases hu
              exact ⟨y, rfl, by rw [pm_up_eq, if_pos rfl]⟩
            · rw [List.getElem?_set_ne hkj] at hu
              have h4 := e9 j f u hf2 hu
              unfold pm_fok at h4 ⊢
              rw [pm_up_eq, if_neg (by omega)]
              exact h4
        · cases h
      · cases h
    · cases h
  · cases h
theorem pm_cell_n {R : List Nat} {tys : List (ClassId × FieldType)} {q n : Nat} {ty : FieldType} {w : va_E} (hty : ty ≠ .long) (h : pm_cok R tys σ q (.inr ((ty, n), none)) w) : ∃ (cA : ClassId) (f : Nat → Int32), w = .inl (cA, n, .inl f) ∧ (∃ t0 : Nat, tys[t0]? = some (cA, ty)) ∧ ∀ j : Nat, j < n → (f j).toInt = σ q (j : Int) := by
  unfold pm_cok at h
  dsimp only at h
  rw [if_neg hty] at h
  exact h
theorem pm_cell_l {R : List Nat} {tys : List (ClassId × FieldType)} {q n : Nat} {w : va_E} (h : pm_cok R tys σ q (.inr ((.long, n), none)) w) : ∃ (cA : ClassId) (f : Nat → Int64), w = .inl (cA, n, .inr (.inl f)) ∧ (∃ t0 : Nat, tys[t0]? = some (cA, .long)) ∧ ∀ j : Nat, j < n → (f j).toInt = σ q (j : Int) := by
  unfold pm_cok at h
  dsimp only at h
  rw [if_pos rfl] at h
  exact h
theorem pm_xld_ok (X : pm_X p R s m args c A b own nL L1 L d cc xs sa cn) {L2 : Nat} (hL1 : L2 = L1 ∨ L2 = 0) {ts : List FieldType} (hts0 : ∀ ty ∈ ts, ty ≠ .long ∧ ∀ z, pm_tv ty z = .int (Int32.ofInt z) ∧ pm_rng z ty = decide ((Int32.ofInt z).toInt = z))
    (row : ∀ ty ∈ ts, len = 1 → ∀ {H : Heap} {locs : List Loc} {ls : Array Slot} {rest : List Value} {ws : va_W} {tys : List (ClassId × FieldType)} {q t0 a n : Nat} {cA : ClassId} {f : Nat → Int32} {x : Int32}, va_K D vwCl tys s → va_P D vwCl ws H → ws[q]? = some (a, .inl (cA, n, .inl f)) → tys[t0]? = some (cA, ty) → vp_in x n → W p l e R s m args below meth c H locs cn.1 cn.2 Q (F0 m (pc + 1) ls (.int (f x.toNatClampNeg) :: rest)) → W p l e R s m args below meth c H locs cn.1 cn.2 Q (F0 m pc ls (.int x :: .ref a :: rest)))
    (rowS : 0 < L2 → FieldType.int ∈ ts → len = 1 → decode cc pc = .ok (.iaload, 1))
    (rowT : ∀ ty ∈ ts, len = 1 → ∀ {H : Heap} {locs : List Loc} {ls : Array Slot} {rest : List Value} {t N : Nat} {f : Nat → Value} {x : Int32} {v : Value}, va_T ty t N f A s s.heap → va_S A s.heap H locs → vp_in x N → f x.toNatClampNeg = v → W p l e R s m args below meth c H locs cn.1 cn.2 Q (F0 m (pc + 1) ls (v :: rest)) → W p l e R s m args below meth c H locs cn.1 cn.2 Q (F0 m pc ls (.int x :: .ref t :: rest)))
    (h : pm_xld L2 ts len pc lv st σ = some o) (hG : pm_NG call Qr σ (pm_G p l e R s m args below meth c Q D A b nL L xs sa wa cn) o) : pm_G p l e R s m args below meth c Q D A b nL L xs sa wa cn (pc, lv, st, σ) := by
  obtain ⟨⟨hx, hb, hml, hown, hts⟩, -, -, -, -, -, hst, hsc⟩ := X
  unfold pm_xld at h
  split at h
  · split at h
    · rename_i ty n wr hn
      split at h
      · rename_i hl
        obtain ⟨hty, hlen⟩ := hl
        cases h
        intro cv cs ws tys ls H locs M hls hK hP hD hS
        obtain ⟨v1, cr, rfl, d1, d2⟩ := ax_popk M.2.1
        obtain ⟨v2, cr, rfl, e1, e2⟩ := ax_popk d2
        obtain ⟨x, rfl, d3⟩ := pm_ok_i d1
        obtain ⟨a, rfl, e3⟩ := pm_ok_r e1
        subst d3
        obtain ⟨k1, k2, k3⟩ := pm_in hG.1
        have fin : ∀ y : Int32, y.toInt = σ _ x.toInt → W p l e R s m args below meth c H locs cn.1 cn.2 Q (F0 m (pc + 1) ls (.int y :: cr)) := fun y hy => hG.2 _ (List.mem_singleton.mpr rfl) trivial cv _ ws tys ls H locs ⟨M.1, ⟨hy, e2⟩, M.2.2⟩ hls hK hP hD hS
        rcases pm_arr_c hn with ⟨rfl, hL, rfl, rfl⟩ | ⟨q, rfl, hq⟩ | ⟨j, z, rfl, hz, rfl, rfl⟩
        · have hL9 : 0 < L1 := by
            rcases hL1 with h1 | h1
            · omega
            · omega
          obtain ⟨s0, s1, s2, s3⟩ := hsc hL9
          have hL8 : L2 = L := by
            rcases hL1 with h1 | h1
            · omega
            · omega
          subst hL8
          have e4 : b = a := by simpa [pm_RR] using e3
          subst e4
          refine va_sld hx hb s1 s2 s3 hS k1 (rowS hL hty hlen) (fin _ ?_)
          rw [← k3]
          exact (M.2.2.2.2.2.1 hL _ k2).symm
        · obtain ⟨w, e4⟩ : ∃ w, ws[q]? = some w := ⟨_, List.getElem?_eq_getElem (by rw [M.2.2.1]; exact pm_sh_len hq)⟩
          have e6 := pm_at e3 e4
          obtain ⟨cA, f, e7, ⟨t0, e8⟩, e9⟩ := pm_cell_n (hts0 ty hty).1 (M.2.2.2.1 q _ w hq e4)
          rw [e7] at e6
          subst e6
          refine row ty hty hlen hK hP e4 e8 k1 (fin _ ?_)
          rw [← k3]
          exact e9 _ k2
        · have e4 := pm_sa M.2.2.1 e3
          have e5 := (hst.2 j z a hz e4).2
          refine rowT _ hty hlen e5 hS k1 ((hts0 _ hty).2 _).1 (fin _ ?_)
          have e6 := pm_ss_val hz k2
          rw [((hts0 _ hty).2 _).2, decide_eq_true_eq] at e6
          rw [e6, ← k3]
          exact (M.2.2.2.2.1 j z hz _ k2).symm
      · cases h
    · cases h
  · cases h
theorem pm_lald_ok (X : pm_X p R s m args c A b own nL L1 L d cc xs sa cn) (hd : decode cc pc = .ok (.laload, len)) (h : pm_lald len pc lv st σ = some o) (hG : pm_NG call Qr σ (pm_G p l e R s m args below meth c Q D A b nL L xs sa wa cn) o) : pm_G p l e R s m args below meth c Q D A b nL L xs sa wa cn (pc, lv, st, σ) := by
  obtain ⟨⟨hx, hb, hml, hown, hts⟩, -, -, -, -, -, hst, hsc⟩ := X
  unfold pm_lald at h
  split at h
  · split at h
    · rename_i ty n wr hn
      split at h
      · rename_i hl
        obtain ⟨rfl, rfl⟩ := hl
        cases h
        intro cv cs ws tys ls H locs M hls hK hP hD hS
        obtain ⟨v1, cr, rfl, d1, d2⟩ := ax_popk M.2.1
        obtain ⟨v2, cr, rfl, e1, e2⟩ := ax_popk d2
        obtain ⟨x, rfl, d3⟩ := pm_ok_i d1
        obtain ⟨a, rfl, e3⟩ := pm_ok_r e1
        subst d3
        obtain ⟨k1, k2, k3⟩ := pm_in hG.1
        have fin : ∀ y : Int64, y.toInt = σ _ x.toInt → W p l e R s m args below meth c H locs cn.1 cn.2 Q (F0 m (pc + 1) ls (.long y :: cr)) := fun y hy => hG.2 _ (List.mem_singleton.mpr rfl) trivial cv _ ws tys ls H locs ⟨M.1, ⟨hy, e2⟩, M.2.2⟩ hls hK hP hD hS
        rcases pm_arr_c hn with ⟨rfl, hL, -, -⟩ | ⟨q, rfl, hq⟩ | ⟨j, z, rfl, hz, hzt, rfl⟩
        · omega
        · obtain ⟨w, e4⟩ : ∃ w, ws[q]? = some w := ⟨_, List.getElem?_eq_getElem (by rw [M.2.2.1]; exact pm_sh_len hq)⟩
          have e6 := pm_at e3 e4
          obtain ⟨cA, f, e7, ⟨t0, e8⟩, e9⟩ := pm_cell_l (M.2.2.2.1 q _ w hq e4)
          rw [e7] at e6
          subst e6
          refine va_lald hx hb hK hP q t0 e4 e8 k1 hd (fin _ ?_)
          rw [← k3]
          exact e9 _ k2
        · have e4 := pm_sa M.2.2.1 e3
          have e5 := (hst.2 j z a hz e4).2
          rw [← hzt] at e5
          refine va_tl hx hb e5 hS k1 rfl hd (fin _ ?_)
          have e6 := pm_ss_val hz k2
          rw [← hzt] at e6
          unfold pm_rng at e6
          rw [decide_eq_true_eq] at e6
          rw [e6, ← k3]
          exact (M.2.2.2.2.1 j z hz _ k2).symm
      · cases h
    · cases h
  · cases h
theorem pm_aald_ok (X : pm_X p R s m args c A b own nL L1 L d cc xs sa cn) (hd : decode cc pc = .ok (.aaload, len)) (h : pm_aald len pc lv st σ = some o) (hG : pm_NG call Qr σ (pm_G p l e R s m args below meth c Q D A b nL L xs sa wa cn) o) : pm_G p l e R s m args below meth c Q D A b nL L xs sa wa cn (pc, lv, st, σ) := by
  obtain ⟨⟨hx, hb, hml, hown, hts⟩, -⟩ := X
  unfold pm_aald at h
  split at h
  · split at h
    · rename_i a0 q r x C n rs hq
      split at h
      · rename_i hl
        obtain ⟨hrs, rfl⟩ := hl
        cases h
        intro cv cs ws tys ls H locs M hls hK hP hD hS
        obtain ⟨v1, cr, rfl, d1, d2⟩ := ax_popk M.2.1
        obtain ⟨v2, cr, rfl, e1, e2⟩ := ax_popk d2
        obtain ⟨x, rfl, d3⟩ := pm_ok_i d1
        obtain ⟨a, rfl, e3⟩ := pm_ok_r e1
        subst d3
        obtain ⟨k1, k2, k3⟩ := pm_in hG.1
        obtain ⟨w, e4⟩ : ∃ w, ws[q]? = some w := ⟨_, List.getElem?_eq_getElem (by rw [M.2.2.1]; exact pm_sh_len hq)⟩
        have e6 := pm_at e3 e4
        obtain ⟨cA, f, e7, ⟨t0, e8⟩, e9⟩ := M.2.2.2.1 q _ w hq e4
        rw [e7] at e6
        subst e6
        refine va_aldq hx hb hK hP q t0 e4 e8 k1 hd ?_
        obtain ⟨y, g3, g4⟩ := e9 _ k2
        have g5 : rs.getD x.toNatClampNeg none = y := by rw [List.getD_eq_getElem?_getD, g3]; rfl
        have g6 := hG.2 _ (List.mem_map.mpr ⟨x.toNatClampNeg, List.mem_range.mpr k2, rfl⟩) k3.symm cv (va_rf (f x.toNatClampNeg) :: cr) ws tys ls H locs
        rw [g5] at g6
        refine g6 ⟨M.1, ⟨?_, e2⟩, M.2.2⟩ hls hK hP hD hS
        cases y <;> cases hfx : f x.toNatClampNeg <;> rw [hfx] at g4 <;> first | trivial | exact g4.elim | exact g4
      · cases h
    · cases h
  · cases h
theorem pm_nar_ok {ty : FieldType} {y : Int32} : (ax_gst ty y).toInt = pm_nar ty y.toInt := by
  cases ty with
  | byte =>
    show (vp_nar .byte y).toInt = w8 y.toInt
    rw [vp_nar_byte]
    have e1 : y.toInt8.toInt32.toInt = y.toInt8.toInt := Int8.toInt_toInt32 _
    rw [e1, pm_w8 (Int32.toInt_toInt8 y)]
  | boolean =>
    show (y &&& 1).toInt = y.toInt % 2
    have e2 : (y &&& 1) = nI (y.toBitVec.toNat % 2 ^ 1) := pk_and y 1 (by decide)
    rw [e2, nI_toInt (by omega)]
    have e3 : y.toInt = y.toBitVec.toInt := rfl
    rw [e3, BitVec.toInt_eq_toNat_cond]
    have h4 := y.toBitVec.isLt
    split <;> omega
  | _ => rfl
theorem pm_xst_ok (X : pm_X p R s m args c A b own nL L1 L d cc xs sa cn) {ts : List FieldType} (hts0 : ∀ ty ∈ ts, ty ≠ .long)
    (row : ∀ ty ∈ ts, len = 1 → ∀ {H : Heap} {locs : List Loc} {ls : Array Slot} {rest : List Value} {ws : va_W} {tys : List (ClassId × FieldType)} {q t0 a n : Nat} {cA : ClassId} {f : Nat → Int32} {x y : Int32}, va_K D vwCl tys s → va_P D vwCl ws H → va_D A ws → va_S A s.heap H locs → ws[q]? = some (a, .inl (cA, n, .inl f)) → tys[t0]? = some (cA, ty) → vp_in x n → (∀ (H1 : Heap) (locs1 : List Loc), va_P D vwCl (ws.set q (a, .inl (cA, n, .inl (upd f x.toNatClampNeg (ax_gst ty y))))) H1 → va_D A (ws.set q (a, .inl (cA, n, .inl (upd f x.toNatClampNeg (ax_gst ty y))))) → va_S A s.heap H1 locs1 → W p l e R s m args below meth c H1 locs1 cn.1 cn.2 Q (F0 m (pc + 1) ls rest)) → W p l e R s m args below meth c H locs cn.1 cn.2 Q (F0 m pc ls (.int y :: .int x :: .ref a :: rest)))
    (h : pm_xst ts len pc lv st σ = some o) (hG : pm_NG call Qr σ (pm_G p l e R s m args below meth c Q D A b nL L xs sa wa cn) o) : pm_G p l e R s m args below meth c Q D A b nL L xs sa wa cn (pc, lv, st, σ) := by
  unfold pm_xst at h
  split at h
  · split at h
    · rename_i ty n hn
      split at h
      · rename_i hl
        obtain ⟨hty, hlen⟩ := hl
        cases h
        intro cv cs ws tys ls H locs M hls hK hP hD hS
        obtain ⟨v0, cr, rfl, c1, c2⟩ := ax_popk M.2.1
        obtain ⟨v1, cr, rfl, d1, d2⟩ := ax_popk c2
        obtain ⟨v2, cr, rfl, e1, e2⟩ := ax_popk d2
        obtain ⟨y, rfl, c3⟩ := pm_ok_i c1
        obtain ⟨x, rfl, d3⟩ := pm_ok_i d1
        obtain ⟨a, rfl, e3⟩ := pm_ok_r e1
        subst c3 d3
        obtain ⟨k1, k2, k3⟩ := pm_in hG.1
        obtain ⟨q, rfl, hq⟩ := pm_arr_w hn
        obtain ⟨w, e4⟩ : ∃ w, ws[q]? = some w := ⟨_, List.getElem?_eq_getElem (by rw [M.2.2.1]; exact pm_sh_len hq)⟩
        have e6 := pm_at e3 e4
        obtain ⟨cA, f, e7, ⟨t0, e8⟩, e9⟩ := pm_cell_n (hts0 ty hty) (M.2.2.2.1 q _ w hq e4)
        rw [e7] at e6
        subst e6
        refine row ty hty hlen hK hP hD hS e4 e8 k1 (fun H1 locs1 hP1 hD1 hS1 => ?_)
        have hps := pm_hps_set (τ := pm_up σ (q + 1) x.toInt (pm_nar ty y.toInt)) (y := .inl (cA, n, .inl (upd f x.toNatClampNeg (ax_gst ty y)))) M.2.2 hq e4 (by
          unfold pm_cok
          dsimp only
          rw [if_neg (hts0 ty hty)]
          refine ⟨cA, _, rfl, ⟨t0, e8⟩, fun j hj => ?_⟩
          unfold upd
          rw [pm_up_eq]
          by_cases hj2 : j = x.toNatClampNeg
          · rw [if_pos hj2, if_pos (by omega)]
            exact pm_nar_ok
          · rw [if_neg hj2, if_neg (by omega)]
            exact e9 j hj) (fun j hj => pm_up_ne hj)
        refine hG.2 _ (List.mem_singleton.mpr rfl) trivial cv cr _ tys ls H1 locs1 ⟨?_, ?_, hps⟩ hls hK hP1 hD1 hS1
        · rw [pm_RR_set e4]; exact M.1
        · rw [pm_RR_set e4]; exact e2
      · cases h
    · cases h
  · cases h
theorem pm_last_ok (X : pm_X p R s m args c A b own nL L1 L d cc xs sa cn) (hd : decode cc pc = .ok (.lastore, len)) (h : pm_last len pc lv st σ = some o) (hG : pm_NG call Qr σ (pm_G p l e R s m args below meth c Q D A b nL L xs sa wa cn) o) : pm_G p l e R s m args below meth c Q D A b nL L xs sa wa cn (pc, lv, st, σ) := by
  obtain ⟨⟨hx, hb, hml, hown, hts⟩, -⟩ := X
  unfold pm_last at h
  split at h
  · split at h
    · rename_i ty n hn
      split at h
      · rename_i hl
        obtain ⟨rfl, rfl⟩ := hl
        cases h
        intro cv cs ws tys ls H locs M hls hK hP hD hS
        obtain ⟨v0, cr, rfl, c1, c2⟩ := ax_popk M.2.1
        obtain ⟨v1, cr, rfl, d1, d2⟩ := ax_popk c2
        obtain ⟨v2, cr, rfl, e1, e2⟩ := ax_popk d2
        obtain ⟨y, rfl, c3⟩ := pm_ok_l c1
        obtain ⟨x, rfl, d3⟩ := pm_ok_i d1
        obtain ⟨a, rfl, e3⟩ := pm_ok_r e1
        subst c3 d3
        obtain ⟨k1, k2, k3⟩ := pm_in hG.1
        obtain ⟨q, rfl, hq⟩ := pm_arr_w hn
        obtain ⟨w, e4⟩ : ∃ w, ws[q]? = some w := ⟨_, List.getElem?_eq_getElem (by rw [M.2.2.1]; exact pm_sh_len hq)⟩
        have e6 := pm_at e3 e4
        obtain ⟨cA, f, e7, ⟨t0, e8⟩, e9⟩ := pm_cell_l (M.2.2.2.1 q _ w hq e4)
        rw [e7] at e6
        subst e6
        refine va_last hx hb hK hP hD hS q t0 e4 e8 k1 hd (fun H1 locs1 hP1 hD1 hS1 => ?_)
        have hps := pm_hps_set (τ := pm_up σ (q + 1) x.toInt y.toInt) (y := .inl (cA, n, .inr (.inl (vp_updL f x.toNatClampNeg y)))) M.2.2 hq e4 (by
          unfold pm_cok
          dsimp only
          rw [if_pos rfl]
          refine ⟨cA, _, rfl, ⟨t0, e8⟩, fun j hj => ?_⟩
          unfold vp_updL
          rw [pm_up_eq]
          by_cases hj2 : j = x.toNatClampNeg
          · rw [if_pos hj2, if_pos (by omega)]
          · rw [if_neg hj2, if_neg (by omega)]
            exact e9 j hj) (fun j hj => pm_up_ne hj)
        refine hG.2 _ (List.mem_singleton.mpr rfl) trivial cv cr _ tys ls H1 locs1 ⟨?_, ?_, hps⟩ hls hK hP1 hD1 hS1
        · rw [pm_RR_set e4]; exact M.1
        · rw [pm_RR_set e4]; exact e2
      · cases h
    · cases h
  · cases h
theorem pm_alen_ok (X : pm_X p R s m args c A b own nL L1 L d cc xs sa cn) (hd : decode cc pc = .ok (.arraylength, len)) (h : pm_alen L1 len pc lv st σ = some o) (hG : pm_NG call Qr σ (pm_G p l e R s m args below meth c Q D A b nL L xs sa wa cn) o) : pm_G p l e R s m args below meth c Q D A b nL L xs sa wa cn (pc, lv, st, σ) := by
  obtain ⟨⟨hx, hb, hml, hown, hts⟩, -, -, -, -, -, hst, hsc⟩ := X
  unfold pm_alen at h
  split at h
  · split at h
    · rename_i ty n wr hn
      split at h
      · rename_i hl
        obtain ⟨rfl, hn2⟩ := hl
        have g := pm_go_G h hG
        intro cv cs ws tys ls H locs M hls hK hP hD hS
        obtain ⟨v2, cr, rfl, e1, e2⟩ := ax_popk M.2.1
        obtain ⟨a, rfl, e3⟩ := pm_ok_r e1
        have e0 : (Int32.ofNat n).toInt = (n : Int) := nI_toInt (by omega)
        have fin : W p l e R s m args below meth c H locs cn.1 cn.2 Q (F0 m (pc + 1) ls (.int (Int32.ofNat n) :: cr)) := g cv _ ws tys ls H locs ⟨M.1, ⟨e0, e2⟩, M.2.2⟩ hls hK hP hD hS
        rcases pm_arr_c hn with ⟨rfl, hL, rfl, rfl⟩ | ⟨q, rfl, hq⟩ | ⟨j, z, rfl, hz, rfl, rfl⟩
        · obtain ⟨s0, s1, s2, s3⟩ := hsc hL
          have e4 : b = a := by simpa [pm_RR] using e3
          subst e4
          rw [s0] at fin
          exact va_slen hx hb s1 s2 s3 hS hd fin
        · obtain ⟨w, e4⟩ : ∃ w, ws[q]? = some w := ⟨_, List.getElem?_eq_getElem (by rw [M.2.2.1]; exact pm_sh_len hq)⟩
          have e6 := pm_at e3 e4
          have e5 := M.2.2.2.1 q _ w hq e4
          have e7 : ∃ (cA : ClassId) (x : vp_A) (t0 : Nat), w.2 = .inl (cA, x) ∧ x.1 = n ∧ tys[t0]? = some (cA, ty) := by
            by_cases hty : ty = .long
            · subst hty
              obtain ⟨cA, f, e7, ⟨t0, e8⟩, e9⟩ := pm_cell_l e5
              exact ⟨cA, _, t0, e7, rfl, e8⟩
            · obtain ⟨cA, f, e7, ⟨t0, e8⟩, e9⟩ := pm_cell_n hty e5
              exact ⟨cA, _, t0, e7, rfl, e8⟩
          obtain ⟨cA, y, t0, e7, e8, e9⟩ := e7
          rw [e7] at e6
          subst e6
          refine va_alen hx hb hK hP q t0 e4 e9 rfl hd ?_
          rw [e8]
          exact fin
        · have e4 := pm_sa M.2.2.1 e3
          exact va_tlen hx hb (hst.2 j z a hz e4).2 hS rfl hd fin
      · cases h
    · cases h
  · cases h
def pm_gchk (e : Nat × (Nat × (Nat × Nat))) : Bool := match pm_ss[e.2.2.1]? with
  | some q => decide (Cond.fieldLinkNest (ax_nm e.1) e.2.1 "SymmetryHouse" q.1.1 q.1.2 "SymmetryHouse" ∈ pm_nest)
  | none => false
theorem pm_gchk_ok : pm_gs.all pm_gchk = true := by decide +kernel
def pm_gchk0 (e : Nat × (Nat × (Nat × Nat))) : Bool := match pm_ss[e.2.2.1]? with
  | some q => decide (lw_tbl[e.2.2.2]? = some (.fieldLink (ax_nm e.1) e.2.1 "SymmetryHouse" q.1.1 q.1.2)) && goodWord (.fieldLink (ax_nm e.1) e.2.1 "SymmetryHouse" q.1.1 q.1.2)
  | none => false
theorem pm_gchk0_ok : pm_gs0.all pm_gchk0 = true := by decide +kernel
theorem pm_nest_tab : ∀ w ∈ pm_nest, w.onTables = true := by decide +kernel
theorem pm_gets_ok (X : pm_X p R s m args c A b own nL L1 L d cc xs sa cn) {i : Nat} (hd : decode cc pc = .ok (.getstatic i, len)) (h : pm_gets own i len pc lv st σ = some o) (hG : pm_NG call Qr σ (pm_G p l e R s m args below meth c Q D A b nL L xs sa wa cn) o) : pm_G p l e R s m args below meth c Q D A b nL L xs sa wa cn (pc, lv, st, σ) := by
  obtain ⟨⟨hx, hb, hml, hown, hts⟩, -, hn, -, -, -, hst, hsc⟩ := X
  have key : ∀ (k : Nat) (q : (String × String) × (FieldType × List Int)), pm_ss[k]? = some q → (∀ v, va_Z "SymmetryHouse" q.1.1 q.1.2 v A s s.heap → len = 3 → ∀ {H : Heap} {locs : List Loc} {ls : Array Slot} {rest : List Value}, va_S A s.heap H locs → W p l e R s m args below meth c H locs cn.1 cn.2 Q (F0 m (pc + 3) ls (v :: rest)) → W p l e R s m args below meth c H locs cn.1 cn.2 Q (F0 m pc ls rest)) → pm_push (.inr (.inr (some (pm_sh.length + 1 + k)))) 3 len pc lv st σ = some o → pm_G p l e R s m args below meth c Q D A b nL L xs sa wa cn (pc, lv, st, σ) := by
    intro k q hk row h
    unfold pm_push at h
    split at h
    · rename_i hl
      have g := pm_go_G h hG
      intro cv cs ws tys ls H locs M hls hK hP hD hS
      obtain ⟨t, ht⟩ : ∃ t, sa[k]? = some t := ⟨_, List.getElem?_eq_getElem (by rw [hst.1]; exact (List.getElem?_eq_some_iff.mp hk).1)⟩
      refine row _ (hst.2 k q t hk ht).1 hl hS (g cv _ ws tys ls H locs ⟨M.1, ⟨?_, M.2.1⟩, M.2.2⟩ hls hK hP hD hS)
      show (pm_RR b ws sa)[pm_sh.length + 1 + k]? = some t
      unfold pm_RR
      rw [show pm_sh.length + 1 + k = (pm_sh.length + k) + 1 by omega, List.getElem?_cons_succ, List.getElem?_append_right (by simp [M.2.2.1]), List.length_map, M.2.2.1, Nat.add_sub_cancel_left]
      exact ht
    · cases h
  unfold pm_gets at h
  split at h
  · rename_i e0 he
    unfold pm_gsf at he
    have hm := List.mem_of_find?_eq_some he
    have hp0 := List.find?_some he
    simp only [Bool.and_eq_true, beq_iff_eq] at hp0
    have h1 := List.all_eq_true.mp pm_gchk_ok _ hm
    unfold pm_gchk at h1
    split at h1
    · rename_i q hq
      rw [hp0.1, hp0.2, decide_eq_true_eq] at h1
      refine key _ q hq (fun v hZ hl => ?_) h
      subst hl
      intro H locs ls rest hS kk
      exact va_getsN hx hb hZ hS hown ((hn _ h1).use (pm_nest_tab _ h1)) (fun _ h => h) hd kk
    · cases h1
  · split at h
    · rename_i e0 he
      unfold pm_gsf0 at he
      have hm := List.mem_of_find?_eq_some he
      have hp0 := List.find?_some he
      simp only [Bool.and_eq_true, beq_iff_eq] at hp0
      have h1 := List.all_eq_true.mp pm_gchk0_ok _ hm
      unfold pm_gchk0 at h1
      split at h1
      · rename_i q hq
        rw [hp0.1, hp0.2] at h1
        simp only [Bool.and_eq_true, decide_eq_true_eq] at h1
        refine key _ q hq (fun v hZ hl => ?_) h
        subst hl
        intro H locs ls rest hS kk
        exact va_gets hx hb hZ hS hown (hts _ (ax_in _ h1.1 h1.2)) (fun _ h => h) hd kk
      · cases h1
    · cases h
end PMS2
