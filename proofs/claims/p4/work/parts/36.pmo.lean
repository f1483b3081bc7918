/-! THE PURE MACHINE: arraycopy; every instruction is sound -/
section PMO
def pm_achk (e : Nat × (Nat × Nat)) : Bool := decide (lw_tbl[e.2.2]? = some (.methodLink (ax_nm e.1) e.2.1 arraycopyName)) && goodWord (.methodLink (ax_nm e.1) e.2.1 arraycopyName)
theorem pm_achk_ok : pm_ac.all pm_achk = true := by decide +kernel
theorem pm_nn {z : Int32} (hz : ¬ z < 0) : z.toInt = (z.toNatClampNeg : Int) := by
  have h1 : (0 : Int) ≤ z.toInt := by simpa using Int32.le_iff_toInt_le.mp (Int32.not_lt.mp hz)
  show z.toInt = ((z.toInt.toNat : Nat) : Int)
  omega
variable {p : Program} {l : Launch} {e : Env} {R : Room} {s : State} {m : MethodId} {args : Array Value} {below : List Frame} {meth : Method} {c : Code} {Q : State → Prop} {D : va_G} {A : Nat → Prop} {b own nL L1 L d : Nat} {cc : ByteArray} {xs : Nat → Int32} {sa wa : List Nat} {cn : Nat × Nat} {call : pm_Call} {Qr : pm_Q} {len pc : Nat} {lv : pm_L} {st : List pm_V} {σ : pm_H} {o : pm_N}
/-- arraycopy out of a static array of ints -/
theorem pm_copyT {ls : Array Slot} {H : Heap} {locs : List Loc} {rest : List Value} {ws : va_W} {tys : List (ClassId × FieldType)} {cells slots a : Nat} {nm : String} (hx : p.tables.exec = Jvm.exec) (hb : c.code = cc) (hml : c.maxLocals = ls.size) {index : Nat} (hown : s.vm.findClass nm = some m.cls) (hlink : (Cond.methodLink nm index arraycopyName).before args s = true) (hnat : (Cond.native arraycopyName).before args s = true) (hstat : (Cond.static arraycopyName).before args s = true) (hini : (Cond.initialized "java/lang/System").before args s = true)
    (hK : va_K D vwCl tys s) (hP : va_P D vwCl ws H) (hD : va_D A ws) (hS : va_S A s.heap H locs) {b0 n0 : Nat} {f : Nat → Int32} (hX : va_T .int b0 n0 (fun j => .int (f j)) A s s.heap) (q1 t1 : Nat) {c1 : ClassId} {n1 : Nat} {g : Nat → Int32} (ha1 : ws[q1]? = some (a, .inl (c1, n1, .inl g))) (ht1 : tys[t1]? = some (c1, .int))
    {sp dp n : Int32} (h1 : ¬ sp < 0) (h2 : ¬ dp < 0) (h3 : ¬ n < 0) (h4 : sp.toNatClampNeg + n.toNatClampNeg ≤ n0) (h5 : dp.toNatClampNeg + n.toNatClampNeg ≤ n1)
    (hfr : 1 ≤ R.frames) (hlo : (rest.map fun v => v.category).sum + (nativeFrameWords "java/lang/System" "arraycopy" 5 + 11) ≤ R.locals) (hdg : decode cc pc = .ok (.invokestatic index, 3))
    (kk : ∀ (H1 : Heap) (locs1 : List Loc), va_P D vwCl (ws.set q1 (a, .inl (c1, n1, .inl (va_cpy f g sp.toNatClampNeg dp.toNatClampNeg n.toNatClampNeg)))) H1 → va_D A (ws.set q1 (a, .inl (c1, n1, .inl (va_cpy f g sp.toNatClampNeg dp.toNatClampNeg n.toNatClampNeg)))) → va_S A s.heap H1 locs1 → W p l e R s m args below meth c H1 locs1 cells slots Q (F0 m (pc + 3) ls rest)) : W p l e R s m args below meth c H locs cells slots Q (F0 m pc ls (.int n :: .int dp :: .ref a :: .int sp :: .ref b0 :: rest)) := by
  intro T hT X
  obtain ⟨scr, u1, u2, u3, u4, -, u5, u6⟩ := hX
  have v0 : H[b0]? = some scr := (hS.2.1 b0 (Array.getElem?_eq_some_iff.mp u1).1 u6).trans u1
  have v1 : H[a]? = some (vp_cell c1 (n1, .inl g)) := hP q1 _ ha1
  obtain ⟨u7, kA, y1, y2, y3⟩ := u2
  obtain ⟨-, kB, y4, y5, y6⟩ := (hK.2 t1 _ ht1).1 n1 (fun j => .int (g j))
  have hrd : ∀ i : Nat, i < n.toNatClampNeg → scr.slots.getD (sp.toNatClampNeg + i) .null = .int (f (sp.toNatClampNeg + i)) := fun i hi => by
    rw [Array.getD_eq_getD_getElem?, u5 _ (by omega)]
    rfl
  have hcp : copied scr (vp_cell c1 (n1, .inl g)) sp dp n = vp_cell c1 (n1, .inl (va_cpy f g sp.toNatClampNeg dp.toNatClampNeg n.toNatClampNeg)) := va_copiedX (fun z => .int z) scr c1 f g u5 h4
  obtain ⟨vm', X', step⟩ := X.arraycopy hx hown hlink hnat hstat hini (src := b0) (dst := a) (cs := scr) (cd := vp_cell c1 (n1, .inl g)) (srcPos := sp) (destPos := dp) (n := n) (by rw [hT]; exact v0) (by rw [hT]; exact v1)
    u7 (fun _ h => by cases h) u3 (fun h => by cases h) y1 y4 y3 y6 (by simp [refKind]) h1 h2 h3
    (by rw [pm_nn h1, pm_nn h3]; omega)
    (by rw [pm_nn h2, pm_nn h3]; show ¬ _ > ((arrV c1 n1 (fun j => .int (g j))).slots.size : Int); rw [arrV_size]; omega)
    (fun _ _ i hi => ⟨by rw [hrd i hi]; rfl, by rw [hrd i hi]; exact trivial⟩)
    (g := F0 m pc ls (.int n :: .int dp :: .ref a :: .int sp :: .ref b0 :: rest)) rfl (by rw [hml]) (rest := rest) rfl (by rw [hb]; exact hdg) hfr (by show 2 * 0 + _ + _ ≤ _; omega)
  rw [hcp] at X' step
  have z1 : a < H.size := (Array.getElem?_eq_some_iff.mp v1).1
  have z2 : ∀ q : Nat, q ≠ a → (H.setIfInBounds a (vp_cell c1 (n1, .inl (va_cpy f g sp.toNatClampNeg dp.toNatClampNeg n.toNatClampNeg))))[q]? = H[q]? := fun q hq => by simp [Array.getElem?_setIfInBounds, Ne.symm hq]
  have z3 : ((T.setVm vm').setCell a (vp_cell c1 (n1, .inl (va_cpy f g sp.toNatClampNeg dp.toNatClampNeg n.toNatClampNeg)))).heap = H.setIfInBounds a (vp_cell c1 (n1, .inl (va_cpy f g sp.toNatClampNeg dp.toNatClampNeg n.toNatClampNeg))) := by rw [← hT]; rfl
  have z4 := hD.2 q1 _ ha1
  obtain ⟨t, a1, b1⟩ := kk _ _ (hP.set hD ha1 (show (H.setIfInBounds a _)[a]? = some _ by simp [Array.getElem?_setIfInBounds, z1]) z2) (hD.set ha1) ⟨by simp; exact hS.1, fun q g1 g2 => (z2 q (fun e => g2 (by rw [e]; exact z4))).trans (hS.2.1 q g1 g2), fun q hq => by
      rcases List.mem_append.mp hq with h | h
      · exact hS.2.2 q h
      · obtain ⟨z, -, hz⟩ := List.mem_map.mp h
        rw [← hz]
        exact z4⟩ _ z3 X'
  exact ⟨t, step t a1, b1⟩
theorem pm_cp_ne {a dd k : Nat} {i j n : Int} (h : k ≠ dd) : pm_cp σ a i dd j n k = σ k := by
  funext z
  unfold pm_cp
  rw [if_neg (fun y => h y.1)]
theorem pm_copy_ok (X : pm_X p R s m args c A b own nL L1 L d cc xs sa cn) {i : Nat} {e0 : Nat × (Nat × Nat)} (he : pm_acf own i = some e0) (hd : decode cc pc = .ok (.invokestatic i, len)) (h : pm_copy len pc lv st σ = some o) (hG : pm_NG call Qr σ (pm_G p l e R s m args below meth c Q D A b nL L xs sa wa cn) o) : pm_G p l e R s m args below meth c Q D A b nL L xs sa wa cn (pc, lv, st, σ) := by
  obtain ⟨⟨hx, hb, hml, hown, hts⟩, -, -, -, hA, ⟨hmc, hms, hfr, hlo⟩, hst, -⟩ := X
  have hlk : Cond.methodLink (ax_nm own) i arraycopyName ∈ ax_W := by
    unfold pm_acf at he
    have hm := List.mem_of_find?_eq_some he
    have hp0 := List.find?_some he
    simp only [Bool.and_eq_true, beq_iff_eq] at hp0
    have h1 := List.all_eq_true.mp pm_achk_ok _ hm
    unfold pm_achk at h1
    rw [hp0.1, hp0.2] at h1
    simp only [Bool.and_eq_true, decide_eq_true_eq] at h1
    exact ax_in _ h1.1 h1.2
  unfold pm_copy at h
  split at h
  · split at h
    · rename_i n0 dp0 dd sp0 aa r x1 x2 na wr nd ha hdd
      split at h
      · rename_i hl
        obtain ⟨hw, rfl⟩ := hl
        cases h
        intro cv cs ws tys ls H locs M hls hK hP hD hS
        obtain ⟨v0, cr, rfl, c1, c2⟩ := ax_popk M.2.1
        obtain ⟨v1, cr, rfl, d1, d2⟩ := ax_popk c2
        obtain ⟨v2, cr, rfl, e1, e2⟩ := ax_popk d2
        obtain ⟨v3, cr, rfl, f1, f2⟩ := ax_popk e2
        obtain ⟨v4, cr, rfl, g1, g2⟩ := ax_popk f2
        obtain ⟨n, rfl, c3⟩ := pm_ok_i c1
        obtain ⟨dp, rfl, d3⟩ := pm_ok_i d1
        obtain ⟨a, rfl, e3⟩ := pm_ok_r e1
        obtain ⟨sp, rfl, f3⟩ := pm_ok_i f1
        obtain ⟨a0, rfl, g3⟩ := pm_ok_r g1
        subst c3 d3 f3
        obtain ⟨⟨k1, k2, k3⟩, k4, k5⟩ := hG.1
        have lt0 : ∀ z : Int32, 0 ≤ z.toInt → ¬ z < 0 := fun z hz => by rw [Int32.lt_iff_toInt_lt]; simpa using hz
        have p1 := lt0 sp k1
        have p2 := lt0 dp k2
        have p3 := lt0 n k3
        have q1 := pm_nn p1
        have q2 := pm_nn p2
        have q3 := pm_nn p3
        obtain ⟨q, rfl, hq⟩ := pm_arr_w hdd
        obtain ⟨w, e4⟩ : ∃ w, ws[q]? = some w := ⟨_, List.getElem?_eq_getElem (by rw [M.2.2.1]; exact pm_sh_len hq)⟩
        have e6 := pm_at e3 e4
        obtain ⟨cB, gB, e7, ⟨tB, e8⟩, e9⟩ := pm_cell_n (by decide) (M.2.2.2.1 q _ w hq e4)
        rw [e7] at e6
        subst e6
        have fin : ∀ (fA : Nat → Int32), (∀ j : Nat, j < na → (fA j).toInt = σ aa (j : Int)) → ∀ (H1 : Heap) (locs1 : List Loc), va_P D vwCl (ws.set q (a, .inl (cB, nd, .inl (va_cpy fA gB sp.toNatClampNeg dp.toNatClampNeg n.toNatClampNeg)))) H1 → va_D A (ws.set q (a, .inl (cB, nd, .inl (va_cpy fA gB sp.toNatClampNeg dp.toNatClampNeg n.toNatClampNeg)))) → va_S A s.heap H1 locs1 → W p l e R s m args below meth c H1 locs1 cn.1 cn.2 Q (F0 m (pc + 3) ls cr) := by
          intro fA hfA H1 locs1 hP1 hD1 hS1
          have hps := pm_hps_set (τ := pm_cp σ aa sp.toInt (q + 1) dp.toInt n.toInt) (y := .inl (cB, nd, .inl (va_cpy fA gB sp.toNatClampNeg dp.toNatClampNeg n.toNatClampNeg))) M.2.2 hq e4 (by
            unfold pm_cok
            dsimp only
            rw [if_neg (by decide)]
            refine ⟨cB, _, rfl, ⟨tB, e8⟩, fun j hj => ?_⟩
            unfold va_cpy pm_cp
            by_cases hj2 : dp.toNatClampNeg ≤ j ∧ j < dp.toNatClampNeg + n.toNatClampNeg
            · rw [if_pos hj2, if_pos ⟨rfl, by omega, by omega⟩, hfA _ (by omega)]
              congr 1
              omega
            · rw [if_neg hj2, if_neg (fun z => hj2 ⟨by omega, by omega⟩)]
              exact e9 j hj) (fun j hj => pm_cp_ne hj)
          refine hG.2 _ (List.mem_singleton.mpr rfl) trivial cv cr _ tys ls H1 locs1 ⟨?_, ?_, hps⟩ hls hK hP1 hD1 hS1
          · rw [pm_RR_set e4]; exact M.1
          · rw [pm_RR_set e4]; exact g2
        have hml2 : c.maxLocals = ls.size := by rw [hml, hls.1]
        have hlo2 : (cr.map fun v => v.category).sum + (nativeFrameWords "java/lang/System" "arraycopy" 5 + 11) ≤ R.locals := by
          rw [← pm_words_ok g2]
          have h9 : nativeFrameWords "java/lang/System" "arraycopy" 5 ≤ 20 := by decide
          omega
        have w1 := hts _ hlk
        have w2 := hts _ (ax_in _ pm_ac_nat (by decide))
        have w3 := hts _ (ax_in _ pm_ac_stat (by decide))
        have w4 := hts _ (ax_in _ pm_ac_ini (by decide))
        rcases pm_arr_c ha with ⟨rfl, hL, -, -⟩ | ⟨q0, rfl, hq0⟩ | ⟨j, z, rfl, hz, hzt, rfl⟩
        · omega
        · obtain ⟨w0, e40⟩ : ∃ w, ws[q0]? = some w := ⟨_, List.getElem?_eq_getElem (by rw [M.2.2.1]; exact pm_sh_len hq0)⟩
          have e60 := pm_at g3 e40
          obtain ⟨cA, fA, e70, ⟨tA, e80⟩, e90⟩ := pm_cell_n (by decide) (M.2.2.2.1 q0 _ w0 hq0 e40)
          rw [e70] at e60
          subst e60
          exact va_copyi hx hb hml2 hown w1 w2 w3 w4 hK hP hD hS q0 q tA tB e40 e4 e80 e8 rfl p1 p2 p3 (by omega) (by omega) (fun _ _ => rfl) (by omega) hlo2 hd (fin fA e90)
        · have e40 := pm_sa M.2.2.1 g3
          have e50 := (hst.2 j z a0 hz e40).2
          rw [← hzt] at e50
          refine pm_copyT hx hb hml2 hown w1 w2 w3 w4 hK hP hD hS (f := fun k => Int32.ofInt (z.2.2.getD k 0)) e50 q tB e4 e8 p1 p2 p3 (by omega) (by omega) (by omega) hlo2 hd (fin _ (fun k hk => ?_))
          have e60 := pm_ss_val hz hk
          rw [← hzt] at e60
          unfold pm_rng at e60
          rw [decide_eq_true_eq] at e60
          rw [e60]
          exact (M.2.2.2.2.1 j z hz _ hk).symm
      · cases h
    · cases h
  · cases h
def pm_fchk (e : Nat × (Nat × Nat)) : Bool := decide (lw_tbl[e.2.2]? = some (.methodLink (ax_nm e.1) e.2.1 yJ9_floorMod_7cf53)) && goodWord (.methodLink (ax_nm e.1) e.2.1 yJ9_floorMod_7cf53)
theorem pm_fchk_ok : pm_fm.all pm_fchk = true := by decide +kernel
theorem pm_modT (x y : Int32) : (x % y).toInt = Int.tmod x.toInt y.toInt := Int32.toInt_mod x y
theorem pm_ne32 {y : Int32} (h : ¬ y.toInt = 0) : ¬ y = 0 := fun z => h (by rw [z]; decide)
theorem pm_ne64 {y : Int64} (h : ¬ y.toInt = 0) : ¬ y = 0 := fun z => h (by rw [z]; decide)
theorem pm_floor_ok (X : pm_X p R s m args c A b own nL L1 L d cc xs sa cn) {i : Nat} {e0 : Nat × (Nat × Nat)} (he : pm_fmf own i = some e0) (hd : decode cc pc = .ok (.invokestatic i, len)) (h : pm_floor len pc lv st σ = some o) (hG : pm_NG call Qr σ (pm_G p l e R s m args below meth c Q D A b nL L xs sa wa cn) o) : pm_G p l e R s m args below meth c Q D A b nL L xs sa wa cn (pc, lv, st, σ) := by
  obtain ⟨⟨hx, hb, hml, hown, hts⟩, -, -, -, hA, ⟨hmc, hms, hfr, hlo⟩, hst, -⟩ := X
  have hlk : Cond.methodLink (ax_nm own) i yJ9_floorMod_7cf53 ∈ ax_W := by
    unfold pm_fmf at he
    have hm := List.mem_of_find?_eq_some he
    have hp0 := List.find?_some he
    simp only [Bool.and_eq_true, beq_iff_eq] at hp0
    have h1 := List.all_eq_true.mp pm_fchk_ok _ hm
    unfold pm_fchk at h1
    rw [hp0.1, hp0.2] at h1
    simp only [Bool.and_eq_true, decide_eq_true_eq] at h1
    exact ax_in _ h1.1 h1.2
  unfold pm_floor at h
  split at h
  · split at h
    · rename_i hl
      obtain ⟨hw, rfl⟩ := hl
      cases h
      intro cv cs ws tys ls H locs M hls hK hP hD hS
      obtain ⟨v1, cr, rfl, e1, e2⟩ := ax_popk M.2.1
      obtain ⟨v2, cr, rfl, e3, e4⟩ := ax_popk e2
      obtain ⟨y, rfl, e5⟩ := pm_ok_i e1
      obtain ⟨x, rfl, e6⟩ := pm_ok_i e3
      subst e5 e6
      have hlo2 : (cr.map fun v => v.category).sum + 14 ≤ R.locals := by
        rw [← pm_words_ok e4]
        omega
      refine pm_fmW hx hb (by rw [hml, hls.1]) hown (hts _ hlk) (hts _ (ax_in _ pm_fm_stat (by decide))) (hts _ (ax_in _ ax_m_init (by decide))) (hts _ (ax_in _ pm_fm_code (by decide))) (by omega) hlo2 hmc hms (pm_ne32 hG.1) hd ?_ ?_
      · exact hG.2 _ List.mem_cons_self trivial cv _ ws tys ls H locs ⟨M.1, ⟨pm_modT x y, e4⟩, M.2.2⟩ hls hK hP hD hS
      · refine hG.2 _ (List.mem_cons_of_mem _ List.mem_cons_self) trivial cv _ ws tys ls H locs ⟨M.1, ⟨?_, e4⟩, M.2.2⟩ hls hK hP hD hS
        show (x % y + y).toInt = _
        rw [pm_w32 (Int32.toInt_add _ _), pm_modT]
    · cases h
  · cases h
theorem pm_mmo_ok (X : pm_X p R s m args c A b own nL L1 L d cc xs sa cn) {i : Nat} {e0 : Nat × (Nat × (Nat × Nat))} (he : ax_mmf own i = some e0) (hd : decode cc pc = .ok (.invokestatic i, len)) (h : pm_mmo e0.2.2.1 len pc lv st σ = some o) (hG : pm_NG call Qr σ (pm_G p l e R s m args below meth c Q D A b nL L xs sa wa cn) o) : pm_G p l e R s m args below meth c Q D A b nL L xs sa wa cn (pc, lv, st, σ) := by
  have hmm : (e0.2.2.1 = 0 ∧ Cond.methodLink (ax_nm own) i Lib.Math.min.name ∈ ax_W) ∨ (e0.2.2.1 = 1 ∧ Cond.methodLink (ax_nm own) i Lib.Math.max.name ∈ ax_W) := by
    unfold ax_mmf at he
    have hm := List.mem_of_find?_eq_some he
    have hp0 := List.find?_some he
    simp only [Bool.and_eq_true, beq_iff_eq] at hp0
    have h1 := List.all_eq_true.mp ax_mmchk_ok _ hm
    unfold ax_mmchk at h1
    rw [hp0.1, hp0.2] at h1
    split at h1
    · rename_i hk
      simp only [Bool.and_eq_true, decide_eq_true_eq] at h1
      exact Or.inl ⟨hk, ax_in _ h1.1 h1.2⟩
    · rename_i hk
      simp only [Bool.and_eq_true, decide_eq_true_eq] at h1
      exact Or.inr ⟨hk, ax_in _ h1.1 h1.2⟩
    · cases h1
  obtain ⟨⟨hx, hb, hml, hown, hts⟩, -, -, -, hA, ⟨hmc, hms, hfr, hlo⟩, hst, -⟩ := X
  unfold pm_mmo at h
  split at h
  · split at h
    · rename_i hl
      obtain ⟨hw, rfl⟩ := hl
      have g := pm_go_G h hG
      intro cv cs ws tys ls H locs M hls hK hP hD hS
      obtain ⟨v1, cr, rfl, e1, e2⟩ := ax_popk M.2.1
      obtain ⟨v2, cr, rfl, e3, e4⟩ := ax_popk e2
      obtain ⟨y, rfl, e5⟩ := pm_ok_i e1
      obtain ⟨x, rfl, e6⟩ := pm_ok_i e3
      subst e5 e6
      have hlo2 : (cr.map fun v => v.category).sum + 13 ≤ R.locals := by
        rw [← pm_words_ok e4]
        omega
      rcases hmm with ⟨k0, hlk⟩ | ⟨k0, hlk⟩
      · refine va_mmin hx hb (by rw [hml, hls.1]) hown (hts _ hlk) (hts _ (ax_in _ ax_mmin_stat (by decide))) (hts _ (ax_in _ ax_m_init (by decide))) (hts _ (ax_in _ ax_mmin_code (by decide))) (by omega) hlo2 hmc hms hd ?_
        refine g cv _ ws tys ls H locs ⟨M.1, ⟨?_, e4⟩, M.2.2⟩ hls hK hP hD hS
        show (if y < x then y else x : Int32).toInt = pm_mm e0.2.2.1 x.toInt y.toInt
        unfold pm_mm
        rw [if_pos k0]
        simp only [Int32.lt_iff_toInt_lt]
        split <;> rfl
      · refine va_mmax hx hb (by rw [hml, hls.1]) hown (hts _ hlk) (hts _ (ax_in _ ax_mmax_stat (by decide))) (hts _ (ax_in _ ax_m_init (by decide))) (hts _ (ax_in _ ax_mmax_code (by decide))) (by omega) hlo2 hmc hms hd ?_
        refine g cv _ ws tys ls H locs ⟨M.1, ⟨?_, e4⟩, M.2.2⟩ hls hK hP hD hS
        show (if x < y then y else x : Int32).toInt = pm_mm e0.2.2.1 x.toInt y.toInt
        unfold pm_mm
        rw [k0]
        simp only [Int32.lt_iff_toInt_lt]
        rw [if_neg (show ¬ (1 : Nat) = 0 by decide)]
        split <;> rfl
    · cases h
  · cases h
theorem pm_stat_ok (X : pm_X p R s m args c A b own nL L1 L d cc xs sa cn) (hcon : pm_Con l call d) {i : Nat} (hd : decode cc pc = .ok (.invokestatic i, len)) (h : pm_stat own i len pc lv st σ = some o) (hG : pm_NG call Qr σ (pm_G p l e R s m args below meth c Q D A b nL L xs sa wa cn) o) : pm_G p l e R s m args below meth c Q D A b nL L xs sa wa cn (pc, lv, st, σ) := by
  unfold pm_stat at h
  split at h
  · rename_i e0 he
    exact pm_copy_ok X he hd h hG
  · split at h
    · rename_i e0 he
      exact pm_floor_ok X he hd h hG
    · split at h
      · rename_i e0 he
        exact pm_mmo_ok X he hd h hG
      · exact pm_invk_ok (kd := 0) X hcon hd (by decide) h hG
theorem pm_ldc_ok (X : pm_X p R s m args c A b own nL L1 L d cc xs sa cn) {i len0 : Nat} (row : ∀ v : Int32, (Cond.constant (ax_nm own) i v).before args s = true → len = len0 → ∀ {H : Heap} {locs : List Loc} {ls : Array Slot} {rest : List Value}, W p l e R s m args below meth c H locs cn.1 cn.2 Q (F0 m (pc + len0) ls (.int v :: rest)) → W p l e R s m args below meth c H locs cn.1 cn.2 Q (F0 m pc ls rest)) (h : pm_ldc own i len0 len pc lv st σ = some o) (hG : pm_NG call Qr σ (pm_G p l e R s m args below meth c Q D A b nL L xs sa wa cn) o) : pm_G p l e R s m args below meth c Q D A b nL L xs sa wa cn (pc, lv, st, σ) := by
  obtain ⟨⟨hx, hb, hml, hown, hts⟩, -⟩ := X
  unfold pm_ldc at h
  split at h
  · rename_i e0 he
    unfold ax_icf at he
    have hm := List.mem_of_find?_eq_some he
    have hp0 := List.find?_some he
    simp only [Bool.and_eq_true, beq_iff_eq] at hp0
    have h1 := List.all_eq_true.mp ax_kchk_ok _ hm
    unfold ax_kchk at h1
    rw [hp0.1, hp0.2] at h1
    simp only [Bool.and_eq_true, decide_eq_true_eq] at h1
    refine pm_push_ok (val := .int e0.2.2.1) ?_ (row _ (hts _ (ax_in _ h1.1 h1.2))) h hG
    exact fun R => rfl
  · cases h
theorem pm_ldc2_ok (X : pm_X p R s m args c A b own nL L1 L d cc xs sa cn) {i : Nat} (hd : decode cc pc = .ok (.ldc2_w i, len)) (h : pm_ldc2 own i len pc lv st σ = some o) (hG : pm_NG call Qr σ (pm_G p l e R s m args below meth c Q D A b nL L xs sa wa cn) o) : pm_G p l e R s m args below meth c Q D A b nL L xs sa wa cn (pc, lv, st, σ) := by
  obtain ⟨⟨hx, hb, hml, hown, hts⟩, -⟩ := X
  unfold pm_ldc2 at h
  split at h
  · rename_i e0 he
    unfold ax_lcf at he
    have hm := List.mem_of_find?_eq_some he
    have hp0 := List.find?_some he
    simp only [Bool.and_eq_true, beq_iff_eq] at hp0
    have h1 := List.all_eq_true.mp ax_kchk2_ok _ hm
    unfold ax_kchk2 at h1
    rw [hp0.1, hp0.2] at h1
    simp only [Bool.and_eq_true, decide_eq_true_eq] at h1
    refine pm_push_ok (val := .long e0.2.2.1) ?_ ?_ h hG
    · exact fun R => rfl
    · exact fun hl => by subst hl; intro H locs ls rest kk; exact lv_ldc2 hx hb hown (hts _ (ax_in _ h1.1 h1.2)) hd kk
  · cases h
theorem pm_irem (x y : Int32) : (x - x / y * y).toInt = Int.tmod x.toInt y.toInt := by
  rw [irem_eq_mod]
  exact Int32.toInt_mod x y
theorem pm_lrem (x y : Int64) : (x - x / y * y).toInt = Int.tmod x.toInt y.toInt := by
  have h1 := Int64.le_toInt (x % y)
  have h2 := Int64.toInt_lt (x % y)
  rw [Int64.toInt_sub, Int64.toInt_mul, Int64.toInt_div, Int.bmod_mul_bmod, Int.sub_bmod_bmod, Int.mul_comm (x.toInt.tdiv y.toInt), ← Int.tmod_def, ← Int64.toInt_mod]
  exact Int.bmod_eq_of_le_mul_two (by omega) (by omega)
/-- every instruction -/
theorem pm_op_ok (X : pm_X p R s m args c A b own nL L1 L d cc xs sa cn) (hcon : pm_Con l call d) {ret : Option FieldType} {i : Instr} (hd : decode cc pc = .ok (i, len))
    (hR : ∀ k : Nat, (i = .return_ ∧ k = 0 ∨ i = .ireturn ∧ k = 1 ∨ i = .lreturn ∧ k = 2 ∨ i = .areturn ∧ k = 3) → pm_ret ret k len st = some o → pm_G p l e R s m args below meth c Q D A b nL L xs sa wa cn (pc, lv, st, σ))
    (h : pm_op own nL L1 ret i len pc lv st σ = some o) (hG : pm_NG call Qr σ (pm_G p l e R s m args below meth c Q D A b nL L xs sa wa cn) o) : pm_G p l e R s m args below meth c Q D A b nL L xs sa wa cn (pc, lv, st, σ) := by
  have X0 := X
  obtain ⟨⟨hx, hb, hml, hown, hts⟩, -⟩ := X0
  cases i with
  | iconst v =>
    refine pm_push_ok (val := .int (Int32.ofInt v)) ?_ ?_ h hG
    · exact fun R => rfl
    · exact fun hl => by subst hl; intro H locs ls rest kk; exact lv_iconst hx hb hd rfl kk
  | bipush v =>
    refine pm_push_ok (val := .int (Int8.ofInt v).toInt32) ?_ ?_ h hG
    · exact fun R => rfl
    · exact fun hl => by subst hl; intro H locs ls rest kk; exact lv_bipush hx hb hd rfl kk
  | sipush v =>
    refine pm_push_ok (val := .int (Int16.ofInt v).toInt32) ?_ ?_ h hG
    · exact fun R => rfl
    · exact fun hl => by subst hl; intro H locs ls rest kk; exact lv_sipush hx hb hd rfl kk
  | lconst v =>
    refine pm_push_ok (val := .long (Int64.ofNat v)) ?_ ?_ h hG
    · exact fun R => rfl
    · exact fun hl => by subst hl; intro H locs ls rest kk; exact lv_lconst hx hb hd rfl kk
  | aconst_null =>
    refine pm_push_ok (val := .null) ?_ ?_ h hG
    · exact fun R => trivial
    · exact fun hl => by subst hl; intro H locs ls rest kk; exact lv_null hx hb hd kk
  | ldc j => exact pm_ldc_ok X (fun v hv hl => by subst hl; intro H locs ls rest kk; exact lv_ldc hx hb hown hv hd kk) h hG
  | ldc_w j => exact pm_ldc_ok X (fun v hv hl => by subst hl; intro H locs ls rest kk; exact lv_ldcw hx hb hown hv hd kk) h hG
  | ldc2_w j => exact pm_ldc2_ok X hd h hG
  | iload_n j => exact pm_ld_ok (fun _ hl => by subst hl; intro H locs ls rest x e kk; exact lv_iload_n hx hb hd rfl e kk) (fun h => by cases h) (fun h => by cases h) (fun h => by cases h) h hG
  | iload j => exact pm_ld_ok (fun _ hl => by subst hl; intro H locs ls rest x e kk; exact lv_iload hx hb hd e kk) (fun h => by cases h) (fun h => by cases h) (fun h => by cases h) h hG
  | lload_n j => exact pm_ld_ok (fun h => by cases h) (fun _ hl => by subst hl; intro H locs ls rest x e kk; exact lv_lload_n hx hb hd rfl e kk) (fun h => by cases h) (fun h => by cases h) h hG
  | lload j => exact pm_ld_ok (fun h => by cases h) (fun _ hl => by subst hl; intro H locs ls rest x e kk; exact lv_lload hx hb hd e kk) (fun h => by cases h) (fun h => by cases h) h hG
  | aload_n j => exact pm_ld_ok (fun h => by cases h) (fun h => by cases h) (fun _ hl => by subst hl; intro H locs ls rest x e kk; exact lv_aload_n hx hb hd rfl e kk) (fun _ hl => by subst hl; intro H locs ls rest e kk; exact lv_aload_nN hx hb hd rfl e kk) h hG
  | aload j => exact pm_ld_ok (fun h => by cases h) (fun h => by cases h) (fun _ hl => by subst hl; intro H locs ls rest x e kk; exact lv_aload hx hb hd e kk) (fun _ hl => by subst hl; intro H locs ls rest e kk; exact lv_aloadN hx hb hd e kk) h hG
  | istore_n j => exact pm_sto_ok (fun {v} _ g1 _ _ hl hn => by obtain ⟨x, rfl⟩ := g1 rfl; subst hl; intro H locs ls rest cv hh kk; exact lv_istore_n hx hb hd rfl hh hn rfl kk) (fun h => by cases h) h hG
  | istore j => exact pm_sto_ok (fun {v} _ g1 _ _ hl hn => by obtain ⟨x, rfl⟩ := g1 rfl; subst hl; intro H locs ls rest cv hh kk; exact lv_istore hx hb hd hh hn rfl kk) (fun h => by cases h) h hG
  | lstore_n j => exact pm_sto_ok (fun {v} _ _ g2 _ hl hn => (g2 rfl).elim) (fun _ {x} hl hn => by subst hl; intro H locs ls rest cv hh kk; exact lv_lstore_n hx hb hd rfl hh hn rfl kk) h hG
  | lstore j => exact pm_sto_ok (fun {v} _ _ g2 _ hl hn => (g2 rfl).elim) (fun _ {x} hl hn => by subst hl; intro H locs ls rest cv hh kk; exact lv_lstore hx hb hd hh hn rfl kk) h hG
  | astore_n j => exact pm_sto_ok (fun {v} _ _ _ g3 hl hn => by
      subst hl
      intro H locs ls rest cv hh kk
      rcases g3 rfl with rfl | ⟨x, rfl⟩
      · exact lv_astore_nN hx hb hd rfl hh hn rfl kk
      · exact lv_astore_n hx hb hd rfl hh hn rfl kk) (fun h => by cases h) h hG
  | astore j => exact pm_sto_ok (fun {v} _ _ _ g3 hl hn => by
      subst hl
      intro H locs ls rest cv hh kk
      rcases g3 rfl with rfl | ⟨x, rfl⟩
      · exact lv_astoreN hx hb hd hh hn rfl kk
      · exact lv_astore hx hb hd hh hn rfl kk) (fun h => by cases h) h hG
  | iinc j v => exact pm_iinc_ok X hd h hG
  | iadd => exact pm_ii_ok (fn := fun x y => x + y) (fun x y _ => pm_w32 (Int32.toInt_add x y)) (fun hl => by subst hl; intro H locs ls rest x y _ kk; exact lv_iadd hx hb hd kk) h hG
  | isub => exact pm_ii_ok (fn := fun x y => x - y) (fun x y _ => pm_w32 (Int32.toInt_sub x y)) (fun hl => by subst hl; intro H locs ls rest x y _ kk; exact lv_isub hx hb hd kk) h hG
  | imul => exact pm_ii_ok (fn := fun x y => x * y) (fun x y _ => pm_w32 (Int32.toInt_mul x y)) (fun hl => by subst hl; intro H locs ls rest x y _ kk; exact lv_imul hx hb hd kk) h hG
  | idiv => exact pm_ii_ok (fn := fun x y => x / y) (fun x y _ => pm_w32 (Int32.toInt_div x y)) (fun hl => by subst hl; intro H locs ls rest x y hz kk; exact lv_idiv hx hb hd (pm_ne32 hz) kk) h hG
  | irem => exact pm_ii_ok (fn := fun x y => x - x / y * y) (fun x y _ => pm_irem x y) (fun hl => by subst hl; intro H locs ls rest x y hz kk; exact lv_irem hx hb hd (pm_ne32 hz) kk) h hG
  | iand => exact pm_ii_ok (fn := fun x y => x &&& y) (fun x y _ => by unfold pm_and; rw [pm_i32, pm_i32]) (fun hl => by subst hl; intro H locs ls rest x y _ kk; exact lv_iand hx hb hd kk) h hG
  | ior => exact pm_ii_ok (fn := fun x y => x ||| y) (fun x y _ => by unfold pm_or; rw [pm_i32, pm_i32]) (fun hl => by subst hl; intro H locs ls rest x y _ kk; exact lv_ior hx hb hd kk) h hG
  | ixor => exact pm_ii_ok (fn := fun x y => x ^^^ y) (fun x y _ => by unfold pm_xor; rw [pm_i32, pm_i32]) (fun hl => by subst hl; intro H locs ls rest x y _ kk; exact lv_ixor hx hb hd kk) h hG
  | ishr => exact pm_ii_ok (fn := fun x y => x >>> (y &&& 31)) (fun x y _ => by unfold pm_shr; rw [pm_i32, pm_i32]) (fun hl => by subst hl; intro H locs ls rest x y _ kk; exact lv_ishr hx hb hd kk) h hG
  | iushr => exact pm_ii_ok (fn := fun x y => (x.toUInt32 >>> (y.toUInt32 &&& Int32.toUInt32 31)).toInt32) (fun x y _ => by unfold pm_ushr; rw [pm_i32, pm_i32]) (fun hl => by subst hl; intro H locs ls rest x y _ kk; exact lv_iushr hx hb hd rfl kk) h hG
  | ineg =>
    refine pm_i1_ok (k := 0) (fn := fun x => .int (-x)) ?_ ?_ h hG
    · intro R x
      exact pm_w32 (Int32.toInt_neg x)
    · exact fun hl => by subst hl; intro H locs ls rest x kk; exact lv_ineg hx hb hd kk
  | i2l =>
    refine pm_i1_ok (k := 1) (fn := fun x => .long x.toInt64) ?_ ?_ h hG
    · intro R x
      exact Int32.toInt_toInt64 x
    · exact fun hl => by subst hl; intro H locs ls rest x kk; exact t_i2l hx hb hd rfl kk
  | i2b =>
    refine pm_i1_ok (k := 0) (fn := fun x => .int x.toInt8.toInt32) ?_ ?_ h hG
    · intro R x
      exact by show x.toInt8.toInt32.toInt = w8 x.toInt; rw [Int8.toInt_toInt32, pm_w8 (Int32.toInt_toInt8 x)]
    · exact fun hl => by subst hl; intro H locs ls rest x kk; exact lv_i2b hx hb hd rfl kk
  | l2i => exact pm_l2i_ok X hd h hG
  | ladd => exact pm_ll_ok (fn := fun x y => x + y) (fun x y _ => pm_w64 (Int64.toInt_add x y)) (fun hl => by subst hl; intro H locs ls rest x y _ kk; exact lv_ladd hx hb hd kk) h hG
  | lsub => exact pm_ll_ok (fn := fun x y => x - y) (fun x y _ => pm_w64 (Int64.toInt_sub x y)) (fun hl => by subst hl; intro H locs ls rest x y _ kk; exact lv_lsub hx hb hd kk) h hG
  | lmul => exact pm_ll_ok (fn := fun x y => x * y) (fun x y _ => pm_w64 (Int64.toInt_mul x y)) (fun hl => by subst hl; intro H locs ls rest x y _ kk; exact lv_lmul hx hb hd kk) h hG
  | ldiv => exact pm_ll_ok (fn := fun x y => x / y) (fun x y _ => pm_w64 (Int64.toInt_div x y)) (fun hl => by subst hl; intro H locs ls rest x y hz kk; exact lv_ldiv hx hb hd (pm_ne64 hz) kk) h hG
  | lrem => exact pm_ll_ok (fn := fun x y => x - x / y * y) (fun x y _ => pm_lrem x y) (fun hl => by subst hl; intro H locs ls rest x y hz kk; exact lv_lrem hx hb hd (pm_ne64 hz) kk) h hG
  | lcmp => exact pm_lcp_ok X hd h hG
  | dup => exact pm_dup_ok X hd h hG
  | dup2 => exact pm_dup2_ok X hd h hG
  | pop => exact pm_pop_ok X hd h hG
  | pop2 => exact pm_pop2_ok X hd h hG
  | ifCond k off =>
    have z0 : (0 : Int32).toInt = 0 := by decide
    cases k with
    | eq => exact pm_if1_ok (P' := fun x => x = 0) (fun x => by rw [← Int32.toInt_inj, z0]) (fun hl ht kt kf => by subst hl; exact lv_if_eq hx hb hd ht kt kf) h hG
    | ne => exact pm_if1_ok (P' := fun x => ¬ x = 0) (fun x => by rw [← Int32.toInt_inj, z0]) (fun hl ht kt kf => by subst hl; exact lv_if_ne hx hb hd ht kt (fun e9 => kf (fun h9 => h9 e9))) h hG
    | lt => exact pm_if1_ok (P' := fun x => x < 0) (fun x => by rw [Int32.lt_iff_toInt_lt, z0]) (fun hl ht kt kf => by subst hl; exact lv_if_lt hx hb hd ht kt kf) h hG
    | ge => exact pm_if1_ok (P' := fun x => 0 ≤ x) (fun x => by rw [Int32.le_iff_toInt_le, z0]) (fun hl ht kt kf => by subst hl; exact lv_if_ge hx hb hd ht kt kf) h hG
    | gt => exact pm_if1_ok (P' := fun x => 0 < x) (fun x => by rw [Int32.lt_iff_toInt_lt, z0]) (fun hl ht kt kf => by subst hl; exact lv_if_gt hx hb hd ht kt kf) h hG
    | le => exact pm_if1_ok (P' := fun x => x ≤ 0) (fun x => by rw [Int32.le_iff_toInt_le, z0]) (fun hl ht kt kf => by subst hl; exact lv_if_le hx hb hd ht kt kf) h hG
  | if_icmp k off =>
    cases k with
    | eq => exact pm_if2_ok (P' := fun x y => x = y) (fun x y => by rw [← Int32.toInt_inj]) (fun hl ht kt kf => by subst hl; exact lv_icmp_eq hx hb hd ht kt kf) h hG
    | ne => exact pm_if2_ok (P' := fun x y => ¬ x = y) (fun x y => by rw [← Int32.toInt_inj]) (fun hl ht kt kf => by subst hl; exact lv_icmp_ne hx hb hd ht kt (fun e9 => kf (fun h9 => h9 e9))) h hG
    | lt => exact pm_if2_ok (P' := fun x y => x < y) (fun x y => Int32.lt_iff_toInt_lt) (fun hl ht kt kf => by subst hl; exact lv_icmp_lt hx hb hd ht kt kf) h hG
    | ge => exact pm_if2_ok (P' := fun x y => y ≤ x) (fun x y => Int32.le_iff_toInt_le) (fun hl ht kt kf => by subst hl; exact lv_icmp_ge hx hb hd ht kt kf) h hG
    | gt => exact pm_if2_ok (P' := fun x y => y < x) (fun x y => Int32.lt_iff_toInt_lt) (fun hl ht kt kf => by subst hl; exact lv_icmp_gt hx hb hd ht kt kf) h hG
    | le => exact pm_if2_ok (P' := fun x y => x ≤ y) (fun x y => Int32.le_iff_toInt_le) (fun hl ht kt kf => by subst hl; exact lv_icmp_le hx hb hd ht kt kf) h hG
  | goto off => exact pm_goto_ok X hd h hG
  | ifnull off => exact pm_ifnull_ok X hd h hG
  | ifnonnull off => exact pm_ifnonnull_ok X hd h hG
  | tableswitch dd lo hi offs => exact pm_sw_ok X hd h hG
  | getfield j => exact pm_gf_ok X hd h hG
  | putfield j => exact pm_pf_ok X hd h hG
  | getstatic j => exact pm_gets_ok X hd h hG
  | iaload =>
    refine pm_xld_ok X (L2 := L1) (Or.inl rfl) (ts := [.int]) ?_ ?_ (fun _ _ hl => by subst hl; exact hd) ?_ h hG
    · intro ty hty
      cases List.mem_singleton.mp hty
      exact ⟨by decide, fun z => ⟨rfl, rfl⟩⟩
    · intro ty hty hlen
      cases List.mem_singleton.mp hty
      subst hlen
      intro H locs ls rest ws tys q t0 a n cA f x hK hP h1 h2 h3 kk
      exact va_iald hx hb hK hP q t0 h1 h2 h3 hd kk
    · intro ty hty hlen
      cases List.mem_singleton.mp hty
      subst hlen
      intro H locs ls rest t N f x v hT hS h3 hv kk
      exact va_ti hx hb hT hS h3 hv hd kk
  | baload =>
    refine pm_xld_ok X (L2 := 0) (Or.inr rfl) (ts := [.byte, .boolean]) ?_ ?_ (fun h0 _ _ => absurd h0 (by omega)) ?_ h hG
    · intro ty hty
      rcases List.mem_cons.mp hty with rfl | hty
      · exact ⟨by decide, fun z => ⟨rfl, rfl⟩⟩
      · cases List.mem_singleton.mp hty
        exact ⟨by decide, fun z => ⟨rfl, rfl⟩⟩
    · intro ty hty hlen
      subst hlen
      intro H locs ls rest ws tys q t0 a n cA f x hK hP h1 h2 h3 kk
      rcases List.mem_cons.mp hty with rfl | hty
      · exact va_bald hx hb hK hP q t0 h1 h2 h3 hd kk
      · cases List.mem_singleton.mp hty
        exact va_zald hx hb hK hP q t0 h1 h2 h3 hd kk
    · intro ty hty hlen
      subst hlen
      intro H locs ls rest t N f x v hT hS h3 hv kk
      rcases List.mem_cons.mp hty with rfl | hty
      · exact va_tb hx hb hT hS h3 hv hd kk
      · cases List.mem_singleton.mp hty
        exact va_tz hx hb hT hS h3 hv hd kk
  | laload => exact pm_lald_ok X hd h hG
  | aaload => exact pm_aald_ok X hd h hG
  | iastore =>
    refine pm_xst_ok X (ts := [.int]) ?_ ?_ h hG
    · intro ty hty
      cases List.mem_singleton.mp hty
      decide
    · intro ty hty hlen
      cases List.mem_singleton.mp hty
      subst hlen
      intro H locs ls rest ws tys q t0 a n cA f x y hK hP hD hS h1 h2 h3 kk
      exact va_iast hx hb hK hP hD hS q t0 h1 h2 h3 hd kk
  | bastore =>
    refine pm_xst_ok X (ts := [.byte, .boolean]) ?_ ?_ h hG
    · intro ty hty
      rcases List.mem_cons.mp hty with rfl | hty
      · decide
      · cases List.mem_singleton.mp hty
        decide
    · intro ty hty hlen
      subst hlen
      intro H locs ls rest ws tys q t0 a n cA f x y hK hP hD hS h1 h2 h3 kk
      rcases List.mem_cons.mp hty with rfl | hty
      · exact va_bast hx hb hK hP hD hS q t0 h1 h2 h3 hd kk
      · cases List.mem_singleton.mp hty
        exact va_zast hx hb hK hP hD hS q t0 h1 h2 h3 hd kk
  | lastore => exact pm_last_ok X hd h hG
  | arraylength => exact pm_alen_ok X hd h hG
  | invokevirtual j => exact pm_invk_ok (kd := 1) X hcon hd (by decide) h hG
  | invokestatic j => exact pm_stat_ok X hcon hd h hG
  | ireturn => exact hR 1 (Or.inr (Or.inl ⟨rfl, rfl⟩)) h
  | lreturn => exact hR 2 (Or.inr (Or.inr (Or.inl ⟨rfl, rfl⟩))) h
  | areturn => exact hR 3 (Or.inr (Or.inr (Or.inr ⟨rfl, rfl⟩))) h
  | return_ => exact hR 0 (Or.inl ⟨rfl, rfl⟩) h
  | _ => cases h
end PMO
