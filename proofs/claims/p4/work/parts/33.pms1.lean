/-! THE PURE MACHINE: each instruction is sound, first part -/
section PMS1
variable {p : Program} {l : Launch} {e : Env} {R : Room} {s : State} {m : MethodId} {args : Array Value} {below : List Frame} {meth : Method} {c : Code} {Q : State → Prop} {D : va_G} {A : Nat → Prop} {b own nL L1 L d : Nat} {cc : ByteArray} {xs : Nat → Int32} {sa wa : List Nat} {cn : Nat × Nat} {call : pm_Call} {Qr : pm_Q} {len pc : Nat} {lv : pm_L} {st : List pm_V} {σ : pm_H} {o : pm_N}
theorem pm_go_G {S : pm_S} (h : pm_go S = some o) (hG : pm_NG call Qr σ (pm_G p l e R s m args below meth c Q D A b nL L xs sa wa cn) o) : pm_G p l e R s m args below meth c Q D A b nL L xs sa wa cn S := by
  unfold pm_go at h
  cases h
  exact hG.2 _ (List.mem_singleton.mpr rfl) trivial
theorem pm_push_ok {v : pm_V} {val : Value} {len0 : Nat} (hv : ∀ R, pm_ok R v val)
    (row : len = len0 → ∀ {H : Heap} {locs : List Loc} {ls : Array Slot} {rest : List Value}, W p l e R s m args below meth c H locs cn.1 cn.2 Q (F0 m (pc + len0) ls (val :: rest)) → W p l e R s m args below meth c H locs cn.1 cn.2 Q (F0 m pc ls rest))
    (h : pm_push v len0 len pc lv st σ = some o) (hG : pm_NG call Qr σ (pm_G p l e R s m args below meth c Q D A b nL L xs sa wa cn) o) : pm_G p l e R s m args below meth c Q D A b nL L xs sa wa cn (pc, lv, st, σ) := by
  unfold pm_push at h
  split at h
  · rename_i hl
    have g := pm_go_G h hG
    intro cv cs ws tys ls H locs M hls hK hP hD hS
    exact row hl (g cv (val :: cs) ws tys ls H locs ⟨M.1, ⟨hv _, M.2.1⟩, M.2.2⟩ hls hK hP hD hS)
  · cases h
theorem pm_ld_ok {kd i len0 : Nat}
    (ri : kd = 0 → len = len0 → ∀ {H : Heap} {locs : List Loc} {ls : Array Slot} {rest : List Value} {x : Int32}, ls[i]? = some (.val (.int x)) → W p l e R s m args below meth c H locs cn.1 cn.2 Q (F0 m (pc + len0) ls (.int x :: rest)) → W p l e R s m args below meth c H locs cn.1 cn.2 Q (F0 m pc ls rest))
    (rl : kd = 1 → len = len0 → ∀ {H : Heap} {locs : List Loc} {ls : Array Slot} {rest : List Value} {x : Int64}, ls[i]? = some (.val (.long x)) → W p l e R s m args below meth c H locs cn.1 cn.2 Q (F0 m (pc + len0) ls (.long x :: rest)) → W p l e R s m args below meth c H locs cn.1 cn.2 Q (F0 m pc ls rest))
    (rr : kd = 2 → len = len0 → ∀ {H : Heap} {locs : List Loc} {ls : Array Slot} {rest : List Value} {x : Nat}, ls[i]? = some (.val (.ref x)) → W p l e R s m args below meth c H locs cn.1 cn.2 Q (F0 m (pc + len0) ls (.ref x :: rest)) → W p l e R s m args below meth c H locs cn.1 cn.2 Q (F0 m pc ls rest))
    (rn : kd = 2 → len = len0 → ∀ {H : Heap} {locs : List Loc} {ls : Array Slot} {rest : List Value}, ls[i]? = some (.val .null) → W p l e R s m args below meth c H locs cn.1 cn.2 Q (F0 m (pc + len0) ls (.null :: rest)) → W p l e R s m args below meth c H locs cn.1 cn.2 Q (F0 m pc ls rest))
    (h : pm_ld kd i len0 len pc lv st σ = some o) (hG : pm_NG call Qr σ (pm_G p l e R s m args below meth c Q D A b nL L xs sa wa cn) o) : pm_G p l e R s m args below meth c Q D A b nL L xs sa wa cn (pc, lv, st, σ) := by
  unfold pm_ld at h
  split at h
  · rename_i a hg
    split at h
    · rename_i hl
      have g := pm_go_G h hG
      intro cv cs ws tys ls H locs M hls hK hP hD hS
      obtain ⟨v, e1, e2⟩ := M.1 i _ hg
      obtain ⟨x, rfl, e3⟩ := pm_ok_i e2
      exact ri hl.1 hl.2 (hls.2.2 _ (e1)) (g cv _ ws tys ls H locs ⟨M.1, ⟨e3, M.2.1⟩, M.2.2⟩ hls hK hP hD hS)
    · cases h
  · rename_i a hg
    split at h
    · rename_i hl
      have g := pm_go_G h hG
      intro cv cs ws tys ls H locs M hls hK hP hD hS
      obtain ⟨v, e1, e2⟩ := M.1 i _ hg
      obtain ⟨x, rfl, e3⟩ := pm_ok_l e2
      exact rl hl.1 hl.2 (hls.2.2 _ (e1)) (g cv _ ws tys ls H locs ⟨M.1, ⟨e3, M.2.1⟩, M.2.2⟩ hls hK hP hD hS)
    · cases h
  · rename_i a hg
    split at h
    · rename_i hl
      have g := pm_go_G h hG
      intro cv cs ws tys ls H locs M hls hK hP hD hS
      obtain ⟨v, e1, e2⟩ := M.1 i _ hg
      rcases a with _ | a
      · cases pm_ok_n e2
        exact rn hl.1 hl.2 (hls.2.2 _ (e1)) (g cv _ ws tys ls H locs ⟨M.1, ⟨trivial, M.2.1⟩, M.2.2⟩ hls hK hP hD hS)
      · obtain ⟨x, rfl, e4⟩ := pm_ok_r e2
        exact rr hl.1 hl.2 (hls.2.2 _ (e1)) (g cv _ ws tys ls H locs ⟨M.1, ⟨e4, M.2.1⟩, M.2.2⟩ hls hK hP hD hS)
    · cases h
  · cases h
theorem pm_kl_get {i j : Nat} {a : pm_V} (hj : (pm_kl lv i)[j]? = some (some a)) : lv[j]? = some (some a) ∧ (j + 1 = i → pm_cat a = 1) := by
  unfold pm_kl at hj
  split at hj
  · exact ⟨hj, fun h => by omega⟩
  · rename_i i
    split at hj
    · rename_i o ho
      by_cases hij : i = j
      · subst hij
        rw [List.getElem?_set_self'] at hj
        rw [ho] at hj
        have h1 : pm_k1 o = some a := by simpa using hj
        rw [ho]
        rcases o with _ | (a' | a' | a')
        · cases h1
        · cases h1
          exact ⟨rfl, fun _ => rfl⟩
        · cases h1
        · cases h1
          exact ⟨rfl, fun _ => rfl⟩
      · rw [List.getElem?_set_ne hij] at hj
        exact ⟨hj, fun h => by omega⟩
    · rename_i ho
      refine ⟨hj, fun h => ?_⟩
      have : i = j := by omega
      subst this
      rw [ho] at hj
      cases hj
theorem pm_set_get {lv : pm_L} {i j : Nat} {a a' : pm_V} (hj : (lv.set i (some a))[j]? = some (some a')) : (i = j ∧ a' = a) ∨ (i ≠ j ∧ lv[j]? = some (some a')) := by
  by_cases hij : i = j
  · subst hij
    refine Or.inl ⟨rfl, ?_⟩
    rw [List.getElem?_set_self'] at hj
    cases h0 : lv[i]? with
    | none => rw [h0] at hj; cases hj
    | some z => rw [h0] at hj; simpa using hj.symm
  · rw [List.getElem?_set_ne hij] at hj
    exact Or.inr ⟨hij, hj⟩
theorem pm_put1_ok {R : List Nat} {cv : List (Nat × Value)} {i : Nat} {a : pm_V} {v : Value} (h : pm_lvs R lv cv) (hv : pm_ok R a v) :
    pm_lvs R ((pm_kl lv i).set i (some a)) ((i, v) :: cv.filter (fun q => !(q.1 == i) && !(q.1 + 1 == i && q.2.category == 2))) := by
  intro j a' hj
  rcases pm_set_get hj with ⟨rfl, rfl⟩ | ⟨hij, hj⟩
  · exact ⟨v, List.mem_cons_self, hv⟩
  · obtain ⟨hj, hc⟩ := pm_kl_get hj
    obtain ⟨w, h1, h2⟩ := h j a' hj
    refine ⟨w, List.mem_cons_of_mem _ (List.mem_filter.mpr ⟨h1, ?_⟩), h2⟩
    by_cases e1 : j + 1 = i
    · have e2 := hc e1
      rw [pm_ok_cat h2] at e2
      simp [Ne.symm hij, e2]
    · simp [Ne.symm hij, e1]
theorem pm_put2_ok {R : List Nat} {cv : List (Nat × Value)} {i : Nat} {a : pm_V} {v : Value} (h : pm_lvs R lv cv) (hv : pm_ok R a v) :
    pm_lvs R (((pm_kl lv i).set i (some a)).set (i + 1) none) ((i, v) :: cv.filter (fun q => !(q.1 == i) && (!(q.1 == i + 1) && !(q.1 + 1 == i && q.2.category == 2)))) := by
  intro j a' hj
  by_cases hi : i + 1 = j
  · subst hi
    rw [List.getElem?_set_self'] at hj
    cases h0 : ((pm_kl lv i).set i (some a))[i + 1]? with
    | none => rw [h0] at hj; cases hj
    | some z => rw [h0] at hj; simp at hj
  · rw [List.getElem?_set_ne hi] at hj
    rcases pm_set_get hj with ⟨rfl, rfl⟩ | ⟨hij, hj⟩
    · exact ⟨v, List.mem_cons_self, hv⟩
    · obtain ⟨hj, hc⟩ := pm_kl_get hj
      obtain ⟨w, h1, h2⟩ := h j a' hj
      refine ⟨w, List.mem_cons_of_mem _ (List.mem_filter.mpr ⟨h1, ?_⟩), h2⟩
      by_cases e1 : j + 1 = i
      · have e2 := hc e1
        rw [pm_ok_cat h2] at e2
        simp [Ne.symm hij, e2, Ne.symm hi]
      · simp [Ne.symm hij, e1, Ne.symm hi]
theorem pm_sto_ok {kd i len0 : Nat}
    (r1 : ∀ {v : Value}, v.category = 1 → (kd = 0 → ∃ x, v = .int x) → (kd = 1 → False) → (kd = 2 → v = .null ∨ ∃ x, v = .ref x) → len = len0 → i < nL → ∀ {H : Heap} {locs : List Loc} {ls : Array Slot} {rest : List Value} {cv : List (Nat × Value)}, lv_has ls nL cv → (∀ ls' : Array Slot, lv_has ls' nL ((i, v) :: cv.filter (fun q => !(q.1 == i) && !(q.1 + 1 == i && q.2.category == 2))) → W p l e R s m args below meth c H locs cn.1 cn.2 Q (F0 m (pc + len0) ls' rest)) → W p l e R s m args below meth c H locs cn.1 cn.2 Q (F0 m pc ls (v :: rest)))
    (r2 : kd = 1 → ∀ {x : Int64}, len = len0 → i + 1 < nL → ∀ {H : Heap} {locs : List Loc} {ls : Array Slot} {rest : List Value} {cv : List (Nat × Value)}, lv_has ls nL cv → (∀ ls' : Array Slot, lv_has ls' nL ((i, .long x) :: cv.filter (fun q => !(q.1 == i) && (!(q.1 == i + 1) && !(q.1 + 1 == i && q.2.category == 2)))) → W p l e R s m args below meth c H locs cn.1 cn.2 Q (F0 m (pc + len0) ls' rest)) → W p l e R s m args below meth c H locs cn.1 cn.2 Q (F0 m pc ls (.long x :: rest)))
    (h : pm_sto kd nL i len0 len pc lv st σ = some o) (hG : pm_NG call Qr σ (pm_G p l e R s m args below meth c Q D A b nL L xs sa wa cn) o) : pm_G p l e R s m args below meth c Q D A b nL L xs sa wa cn (pc, lv, st, σ) := by
  unfold pm_sto at h
  split at h
  · split at h
    · rename_i hl
      have g := pm_go_G h hG
      intro cv cs ws tys ls H locs M hls hK hP hD hS
      obtain ⟨v, cr, rfl, e1, e2⟩ := ax_popk M.2.1
      obtain ⟨x, rfl, e3⟩ := pm_ok_i e1
      refine r1 rfl (fun _ => ⟨x, rfl⟩) (fun h => by omega) (fun h => by omega) hl.2.1 hl.2.2 hls (fun ls' hls' => ?_)
      exact g _ cr ws tys ls' H locs ⟨pm_put1_ok M.1 e1, e2, M.2.2⟩ hls' hK hP hD hS
    · cases h
  · split at h
    · rename_i hl
      have g := pm_go_G h hG
      intro cv cs ws tys ls H locs M hls hK hP hD hS
      obtain ⟨v, cr, rfl, e1, e2⟩ := ax_popk M.2.1
      obtain ⟨x, rfl, e3⟩ := pm_ok_l e1
      refine r2 hl.1 hl.2.1 hl.2.2 hls (fun ls' hls' => ?_)
      exact g _ cr ws tys ls' H locs ⟨pm_put2_ok M.1 e1, e2, M.2.2⟩ hls' hK hP hD hS
    · cases h
  · rename_i a r
    split at h
    · rename_i hl
      have g := pm_go_G h hG
      intro cv cs ws tys ls H locs M hls hK hP hD hS
      obtain ⟨v, cr, rfl, e1, e2⟩ := ax_popk M.2.1
      have e3 : v.category = 1 ∧ (v = .null ∨ ∃ x, v = .ref x) := by
        rcases a with _ | a
        · cases pm_ok_n e1; exact ⟨rfl, Or.inl rfl⟩
        · obtain ⟨x, rfl, -⟩ := pm_ok_r e1; exact ⟨rfl, Or.inr ⟨x, rfl⟩⟩
      refine r1 e3.1 (fun h => by omega) (fun h => by omega) (fun _ => e3.2) hl.2.1 hl.2.2 hls (fun ls' hls' => ?_)
      exact g _ cr ws tys ls' H locs ⟨pm_put1_ok M.1 e1, e2, M.2.2⟩ hls' hK hP hD hS
    · cases h
  · cases h
theorem pm_iinc_ok (X : pm_X p R s m args c A b own nL L1 L d cc xs sa cn) {i : Nat} {v : Int} (hd : decode cc pc = .ok (.iinc i v, len)) (h : pm_iinc nL i v len pc lv st σ = some o) (hG : pm_NG call Qr σ (pm_G p l e R s m args below meth c Q D A b nL L xs sa wa cn) o) : pm_G p l e R s m args below meth c Q D A b nL L xs sa wa cn (pc, lv, st, σ) := by
  obtain ⟨⟨hx, hb, -⟩, -⟩ := X
  unfold pm_iinc at h
  split at h
  · rename_i a hg
    split at h
    · rename_i hl
      obtain ⟨rfl, hn⟩ := hl
      have g := pm_go_G h hG
      intro cv cs ws tys ls H locs M hls hK hP hD hS
      obtain ⟨w, e1, e2⟩ := M.1 i _ hg
      obtain ⟨x, rfl, e3⟩ := pm_ok_i e2
      obtain ⟨k, hk⟩ := List.getElem?_of_mem e1
      refine lv_iinc hx hb hd hls hk rfl hn rfl (fun ls' hls' => ?_)
      refine g _ cs ws tys ls' H locs ⟨pm_put1_ok M.1 ?_, M.2.1, M.2.2⟩ hls' hK hP hD hS
      show (x + Int32.ofInt v).toInt = _
      rw [pm_w32 (Int32.toInt_add x _), e3]
    · cases h
  · cases h
theorem pm_ii_ok {f : Int → Int → Int} {gd : Int → Int → Prop} {fn : Int32 → Int32 → Int32} (hf : ∀ (x y : Int32), gd x.toInt y.toInt → (fn x y).toInt = f x.toInt y.toInt)
    (row : len = 1 → ∀ {H : Heap} {locs : List Loc} {ls : Array Slot} {rest : List Value} {x y : Int32}, gd x.toInt y.toInt → W p l e R s m args below meth c H locs cn.1 cn.2 Q (F0 m (pc + 1) ls (.int (fn x y) :: rest)) → W p l e R s m args below meth c H locs cn.1 cn.2 Q (F0 m pc ls (.int y :: .int x :: rest)))
    (h : pm_ii f gd len pc lv st σ = some o) (hG : pm_NG call Qr σ (pm_G p l e R s m args below meth c Q D A b nL L xs sa wa cn) o) : pm_G p l e R s m args below meth c Q D A b nL L xs sa wa cn (pc, lv, st, σ) := by
  unfold pm_ii at h
  split at h
  · split at h
    · rename_i hl
      cases h
      intro cv cs ws tys ls H locs M hls hK hP hD hS
      obtain ⟨v1, cr, rfl, e1, e2⟩ := ax_popk M.2.1
      obtain ⟨v2, cr, rfl, e3, e4⟩ := ax_popk e2
      obtain ⟨y, rfl, e5⟩ := pm_ok_i e1
      obtain ⟨x, rfl, e6⟩ := pm_ok_i e3
      subst e5 e6
      exact row hl hG.1 (hG.2 _ (List.mem_singleton.mpr rfl) trivial cv _ ws tys ls H locs ⟨M.1, ⟨hf x y hG.1, e4⟩, M.2.2⟩ hls hK hP hD hS)
    · cases h
  · cases h
theorem pm_ll_ok {f : Int → Int → Int} {gd : Int → Int → Prop} {fn : Int64 → Int64 → Int64} (hf : ∀ (x y : Int64), gd x.toInt y.toInt → (fn x y).toInt = f x.toInt y.toInt)
    (row : len = 1 → ∀ {H : Heap} {locs : List Loc} {ls : Array Slot} {rest : List Value} {x y : Int64}, gd x.toInt y.toInt → W p l e R s m args below meth c H locs cn.1 cn.2 Q (F0 m (pc + 1) ls (.long (fn x y) :: rest)) → W p l e R s m args below meth c H locs cn.1 cn.2 Q (F0 m pc ls (.long y :: .long x :: rest)))
    (h : pm_ll f gd len pc lv st σ = some o) (hG : pm_NG call Qr σ (pm_G p l e R s m args below meth c Q D A b nL L xs sa wa cn) o) : pm_G p l e R s m args below meth c Q D A b nL L xs sa wa cn (pc, lv, st, σ) := by
  unfold pm_ll at h
  split at h
  · split at h
    · rename_i hl
      cases h
      intro cv cs ws tys ls H locs M hls hK hP hD hS
      obtain ⟨v1, cr, rfl, e1, e2⟩ := ax_popk M.2.1
      obtain ⟨v2, cr, rfl, e3, e4⟩ := ax_popk e2
      obtain ⟨y, rfl, e5⟩ := pm_ok_l e1
      obtain ⟨x, rfl, e6⟩ := pm_ok_l e3
      subst e5 e6
      exact row hl hG.1 (hG.2 _ (List.mem_singleton.mpr rfl) trivial cv _ ws tys ls H locs ⟨M.1, ⟨hf x y hG.1, e4⟩, M.2.2⟩ hls hK hP hD hS)
    · cases h
  · cases h
theorem pm_i1_ok {k : Nat} {f : Int → Int} {fn : Int32 → Value} (hf : ∀ (R : List Nat) (x : Int32), pm_ok R (if k = 0 then .inl (f x.toInt) else .inr (.inl (f x.toInt))) (fn x))
    (row : len = 1 → ∀ {H : Heap} {locs : List Loc} {ls : Array Slot} {rest : List Value} {x : Int32}, W p l e R s m args below meth c H locs cn.1 cn.2 Q (F0 m (pc + 1) ls (fn x :: rest)) → W p l e R s m args below meth c H locs cn.1 cn.2 Q (F0 m pc ls (.int x :: rest)))
    (h : pm_i1 k f len pc lv st σ = some o) (hG : pm_NG call Qr σ (pm_G p l e R s m args below meth c Q D A b nL L xs sa wa cn) o) : pm_G p l e R s m args below meth c Q D A b nL L xs sa wa cn (pc, lv, st, σ) := by
  unfold pm_i1 at h
  split at h
  · split at h
    · rename_i hl
      have g := pm_go_G h hG
      intro cv cs ws tys ls H locs M hls hK hP hD hS
      obtain ⟨v1, cr, rfl, e1, e2⟩ := ax_popk M.2.1
      obtain ⟨x, rfl, e5⟩ := pm_ok_i e1
      subst e5
      exact row hl (g cv _ ws tys ls H locs ⟨M.1, ⟨hf _ x, e2⟩, M.2.2⟩ hls hK hP hD hS)
    · cases h
  · cases h
theorem pm_l2i_ok (X : pm_X p R s m args c A b own nL L1 L d cc xs sa cn) (hd : decode cc pc = .ok (.l2i, len)) (h : pm_l2i len pc lv st σ = some o) (hG : pm_NG call Qr σ (pm_G p l e R s m args below meth c Q D A b nL L xs sa wa cn) o) : pm_G p l e R s m args below meth c Q D A b nL L xs sa wa cn (pc, lv, st, σ) := by
  obtain ⟨⟨hx, hb, -⟩, -⟩ := X
  unfold pm_l2i at h
  split at h
  · split at h
    · rename_i hl
      subst hl
      have g := pm_go_G h hG
      intro cv cs ws tys ls H locs M hls hK hP hD hS
      obtain ⟨v1, cr, rfl, e1, e2⟩ := ax_popk M.2.1
      obtain ⟨y, rfl, e5⟩ := pm_ok_l e1
      subst e5
      exact t_l2i hx hb hd rfl (g cv _ ws tys ls H locs ⟨M.1, ⟨pm_w32 (Int64.toInt_toInt32 y), e2⟩, M.2.2⟩ hls hK hP hD hS)
    · cases h
  · cases h
theorem pm_lcp_ok (X : pm_X p R s m args c A b own nL L1 L d cc xs sa cn) (hd : decode cc pc = .ok (.lcmp, len)) (h : pm_lcp len pc lv st σ = some o) (hG : pm_NG call Qr σ (pm_G p l e R s m args below meth c Q D A b nL L xs sa wa cn) o) : pm_G p l e R s m args below meth c Q D A b nL L xs sa wa cn (pc, lv, st, σ) := by
  obtain ⟨⟨hx, hb, -⟩, -⟩ := X
  unfold pm_lcp at h
  split at h
  · split at h
    · rename_i hl
      subst hl
      have g := pm_go_G h hG
      intro cv cs ws tys ls H locs M hls hK hP hD hS
      obtain ⟨v1, cr, rfl, e1, e2⟩ := ax_popk M.2.1
      obtain ⟨v2, cr, rfl, e3, e4⟩ := ax_popk e2
      obtain ⟨y, rfl, e5⟩ := pm_ok_l e1
      obtain ⟨x, rfl, e6⟩ := pm_ok_l e3
      subst e5 e6
      refine W.lcmp hx hb hd (g cv _ ws tys ls H locs ⟨M.1, ⟨?_, e4⟩, M.2.2⟩ hls hK hP hD hS)
      show (lg_cmp x y).toInt = pm_cmp x.toInt y.toInt
      have hlt : x > y ↔ y.toInt < x.toInt := Int64.lt_iff_toInt_lt
      have heq : x = y ↔ x.toInt = y.toInt := Int64.toInt_inj.symm
      unfold pm_cmp lg_cmp
      simp only [hlt, heq]
      split
      · decide
      · split <;> decide
    · cases h
  · cases h
theorem pm_dup_ok (X : pm_X p R s m args c A b own nL L1 L d cc xs sa cn) (hd : decode cc pc = .ok (.dup, len)) (h : pm_dup len pc lv st σ = some o) (hG : pm_NG call Qr σ (pm_G p l e R s m args below meth c Q D A b nL L xs sa wa cn) o) : pm_G p l e R s m args below meth c Q D A b nL L xs sa wa cn (pc, lv, st, σ) := by
  obtain ⟨⟨hx, hb, -⟩, -⟩ := X
  unfold pm_dup at h
  split at h
  · split at h
    · rename_i hl
      obtain ⟨rfl, hc⟩ := hl
      have g := pm_go_G h hG
      intro cv cs ws tys ls H locs M hls hK hP hD hS
      obtain ⟨v1, cr, rfl, e1, e2⟩ := ax_popk M.2.1
      exact lv_dup hx hb hd (by rw [← pm_ok_cat e1]; exact hc) (g cv _ ws tys ls H locs ⟨M.1, ⟨e1, e1, e2⟩, M.2.2⟩ hls hK hP hD hS)
    · cases h
  · cases h
theorem pm_dup2_ok (X : pm_X p R s m args c A b own nL L1 L d cc xs sa cn) (hd : decode cc pc = .ok (.dup2, len)) (h : pm_dup2 len pc lv st σ = some o) (hG : pm_NG call Qr σ (pm_G p l e R s m args below meth c Q D A b nL L xs sa wa cn) o) : pm_G p l e R s m args below meth c Q D A b nL L xs sa wa cn (pc, lv, st, σ) := by
  obtain ⟨⟨hx, hb, -⟩, -⟩ := X
  unfold pm_dup2 at h
  split at h
  · split at h
    · rename_i hl
      obtain ⟨rfl, hc, hc2⟩ := hl
      have g := pm_go_G h hG
      intro cv cs ws tys ls H locs M hls hK hP hD hS
      obtain ⟨v1, cr, rfl, e1, e2⟩ := ax_popk M.2.1
      obtain ⟨v2, cr, rfl, e3, e4⟩ := ax_popk e2
      exact lv_dup2_11 hx hb hd (by rw [← pm_ok_cat e1]; exact hc) (by rw [← pm_ok_cat e3]; exact hc2) (g cv _ ws tys ls H locs ⟨M.1, ⟨e1, e3, e1, e3, e4⟩, M.2.2⟩ hls hK hP hD hS)
    · cases h
  · cases h
theorem pm_pop_ok (X : pm_X p R s m args c A b own nL L1 L d cc xs sa cn) (hd : decode cc pc = .ok (.pop, len)) (h : pm_pop len pc lv st σ = some o) (hG : pm_NG call Qr σ (pm_G p l e R s m args below meth c Q D A b nL L xs sa wa cn) o) : pm_G p l e R s m args below meth c Q D A b nL L xs sa wa cn (pc, lv, st, σ) := by
  obtain ⟨⟨hx, hb, -⟩, -⟩ := X
  unfold pm_pop at h
  split at h
  · split at h
    · rename_i hl
      obtain ⟨rfl, hc⟩ := hl
      have g := pm_go_G h hG
      intro cv cs ws tys ls H locs M hls hK hP hD hS
      obtain ⟨v1, cr, rfl, e1, e2⟩ := ax_popk M.2.1
      exact lv_pop hx hb hd (by rw [← pm_ok_cat e1]; exact hc) (g cv _ ws tys ls H locs ⟨M.1, e2, M.2.2⟩ hls hK hP hD hS)
    · cases h
  · cases h
theorem pm_pop2_ok (X : pm_X p R s m args c A b own nL L1 L d cc xs sa cn) (hd : decode cc pc = .ok (.pop2, len)) (h : pm_pop2 len pc lv st σ = some o) (hG : pm_NG call Qr σ (pm_G p l e R s m args below meth c Q D A b nL L xs sa wa cn) o) : pm_G p l e R s m args below meth c Q D A b nL L xs sa wa cn (pc, lv, st, σ) := by
  obtain ⟨⟨hx, hb, -⟩, -⟩ := X
  unfold pm_pop2 at h
  split at h
  · split at h
    · rename_i hl
      obtain ⟨rfl, hc⟩ := hl
      have g := pm_go_G h hG
      intro cv cs ws tys ls H locs M hls hK hP hD hS
      obtain ⟨v1, cr, rfl, e1, e2⟩ := ax_popk M.2.1
      exact lv_pop2_2 hx hb hd (by rw [← pm_ok_cat e1]; exact hc) (g cv _ ws tys ls H locs ⟨M.1, e2, M.2.2⟩ hls hK hP hD hS)
    · cases h
  · cases h
theorem pm_goto_ok (X : pm_X p R s m args c A b own nL L1 L d cc xs sa cn) {off : Int} (hd : decode cc pc = .ok (.goto off, len)) (h : pm_goto off len pc lv st σ = some o) (hG : pm_NG call Qr σ (pm_G p l e R s m args below meth c Q D A b nL L xs sa wa cn) o) : pm_G p l e R s m args below meth c Q D A b nL L xs sa wa cn (pc, lv, st, σ) := by
  obtain ⟨⟨hx, hb, -⟩, -⟩ := X
  unfold pm_goto at h
  split at h
  · rename_i t ht
    split at h
    · rename_i hl
      subst hl
      have g := pm_go_G h hG
      intro cv cs ws tys ls H locs M hls hK hP hD hS
      exact lv_goto hx hb hd (ax_tgt_ok ht) (g cv _ ws tys ls H locs M hls hK hP hD hS)
    · cases h
  · cases h
theorem pm_ifnull_ok (X : pm_X p R s m args c A b own nL L1 L d cc xs sa cn) {off : Int} (hd : decode cc pc = .ok (.ifnull off, len)) (h : pm_nul true off len pc lv st σ = some o) (hG : pm_NG call Qr σ (pm_G p l e R s m args below meth c Q D A b nL L xs sa wa cn) o) : pm_G p l e R s m args below meth c Q D A b nL L xs sa wa cn (pc, lv, st, σ) := by
  obtain ⟨⟨hx, hb, -⟩, -⟩ := X
  unfold pm_nul at h
  split at h
  · rename_i t r ht
    split at h
    · rename_i hl
      subst hl
      have g := pm_go_G h hG
      intro cv cs ws tys ls H locs M hls hK hP hD hS
      obtain ⟨v1, cr, rfl, e1, e2⟩ := ax_popk M.2.1
      cases pm_ok_n e1
      exact lv_ifnullN hx hb hd (ax_tgt_ok ht) (g cv _ ws tys ls H locs ⟨M.1, e2, M.2.2⟩ hls hK hP hD hS)
    · cases h
  · rename_i t k r ht
    split at h
    · rename_i hl
      subst hl
      have g := pm_go_G h hG
      intro cv cs ws tys ls H locs M hls hK hP hD hS
      obtain ⟨v1, cr, rfl, e1, e2⟩ := ax_popk M.2.1
      obtain ⟨q, rfl, -⟩ := pm_ok_r e1
      exact lv_ifnull hx hb hd (g cv _ ws tys ls H locs ⟨M.1, e2, M.2.2⟩ hls hK hP hD hS)
    · cases h
  · cases h
theorem pm_ifnonnull_ok (X : pm_X p R s m args c A b own nL L1 L d cc xs sa cn) {off : Int} (hd : decode cc pc = .ok (.ifnonnull off, len)) (h : pm_nul false off len pc lv st σ = some o) (hG : pm_NG call Qr σ (pm_G p l e R s m args below meth c Q D A b nL L xs sa wa cn) o) : pm_G p l e R s m args below meth c Q D A b nL L xs sa wa cn (pc, lv, st, σ) := by
  obtain ⟨⟨hx, hb, -⟩, -⟩ := X
  unfold pm_nul at h
  split at h
  · rename_i t r ht
    split at h
    · rename_i hl
      subst hl
      have g := pm_go_G h hG
      intro cv cs ws tys ls H locs M hls hK hP hD hS
      obtain ⟨v1, cr, rfl, e1, e2⟩ := ax_popk M.2.1
      cases pm_ok_n e1
      exact lv_ifnonnullN hx hb hd (g cv _ ws tys ls H locs ⟨M.1, e2, M.2.2⟩ hls hK hP hD hS)
    · cases h
  · rename_i t k r ht
    split at h
    · rename_i hl
      subst hl
      have g := pm_go_G h hG
      intro cv cs ws tys ls H locs M hls hK hP hD hS
      obtain ⟨v1, cr, rfl, e1, e2⟩ := ax_popk M.2.1
      obtain ⟨q, rfl, -⟩ := pm_ok_r e1
      exact lv_ifnonnull hx hb hd (ax_tgt_ok ht) (g cv _ ws tys ls H locs ⟨M.1, e2, M.2.2⟩ hls hK hP hD hS)
    · cases h
  · cases h
theorem pm_if2_ok {off : Int} {P : Int → Int → Prop} {P' : Int32 → Int32 → Prop} (hP' : ∀ x y : Int32, P' x y ↔ P x.toInt y.toInt)
    (row : ∀ {H : Heap} {locs : List Loc} {ls : Array Slot} {rest : List Value} {x y : Int32} {tgt : Nat}, len = 3 → (pc : Int) + off = (tgt : Int) → (P' x y → W p l e R s m args below meth c H locs cn.1 cn.2 Q (F0 m tgt ls rest)) → (¬ P' x y → W p l e R s m args below meth c H locs cn.1 cn.2 Q (F0 m (pc + 3) ls rest)) → W p l e R s m args below meth c H locs cn.1 cn.2 Q (F0 m pc ls (.int y :: .int x :: rest)))
    (h : pm_if2 P off len pc lv st σ = some o) (hG : pm_NG call Qr σ (pm_G p l e R s m args below meth c Q D A b nL L xs sa wa cn) o) : pm_G p l e R s m args below meth c Q D A b nL L xs sa wa cn (pc, lv, st, σ) := by
  unfold pm_if2 at h
  split at h
  · rename_i t b0 a0 r ht
    split at h
    · rename_i hl
      cases h
      intro cv cs ws tys ls H locs M hls hK hP hD hS
      obtain ⟨v1, cr, rfl, e1, e2⟩ := ax_popk M.2.1
      obtain ⟨v2, cr, rfl, e3, e4⟩ := ax_popk e2
      obtain ⟨y, rfl, e5⟩ := pm_ok_i e1
      obtain ⟨x, rfl, e6⟩ := pm_ok_i e3
      subst e5 e6
      refine row hl (ax_tgt_ok ht) (fun c1 => ?_) (fun c1 => ?_)
      · exact hG.2 _ List.mem_cons_self ((hP' x y).mp c1) cv cr ws tys ls H locs ⟨M.1, e4, M.2.2⟩ hls hK hP hD hS
      · exact hG.2 _ (List.mem_cons_of_mem _ List.mem_cons_self) (fun z => c1 ((hP' x y).mpr z)) cv cr ws tys ls H locs ⟨M.1, e4, M.2.2⟩ hls hK hP hD hS
    · cases h
  · cases h
theorem pm_if1_ok {off : Int} {P : Int → Prop} {P' : Int32 → Prop} (hP' : ∀ x : Int32, P' x ↔ P x.toInt)
    (row : ∀ {H : Heap} {locs : List Loc} {ls : Array Slot} {rest : List Value} {x : Int32} {tgt : Nat}, len = 3 → (pc : Int) + off = (tgt : Int) → (P' x → W p l e R s m args below meth c H locs cn.1 cn.2 Q (F0 m tgt ls rest)) → (¬ P' x → W p l e R s m args below meth c H locs cn.1 cn.2 Q (F0 m (pc + 3) ls rest)) → W p l e R s m args below meth c H locs cn.1 cn.2 Q (F0 m pc ls (.int x :: rest)))
    (h : pm_if1 P off len pc lv st σ = some o) (hG : pm_NG call Qr σ (pm_G p l e R s m args below meth c Q D A b nL L xs sa wa cn) o) : pm_G p l e R s m args below meth c Q D A b nL L xs sa wa cn (pc, lv, st, σ) := by
  unfold pm_if1 at h
  split at h
  · rename_i t a0 r ht
    split at h
    · rename_i hl
      cases h
      intro cv cs ws tys ls H locs M hls hK hP hD hS
      obtain ⟨v2, cr, rfl, e3, e4⟩ := ax_popk M.2.1
      obtain ⟨x, rfl, e6⟩ := pm_ok_i e3
      subst e6
      refine row hl (ax_tgt_ok ht) (fun c1 => ?_) (fun c1 => ?_)
      · exact hG.2 _ List.mem_cons_self ((hP' x).mp c1) cv cr ws tys ls H locs ⟨M.1, e4, M.2.2⟩ hls hK hP hD hS
      · exact hG.2 _ (List.mem_cons_of_mem _ List.mem_cons_self) (fun z => c1 ((hP' x).mpr z)) cv cr ws tys ls H locs ⟨M.1, e4, M.2.2⟩ hls hK hP hD hS
    · cases h
  · cases h
theorem pm_sws_ok {offs : List Int} {lo a : Int} {r : List pm_V} : ∀ {f j : Nat} {out : List (Prop × pm_S)}, pm_sws offs lo a pc lv r σ f j = some out → ∀ i : Nat, j ≤ i → i < j + f → ∃ off t, offs[i]? = some off ∧ ax_tgt pc off = some t ∧ (a = lo + (i : Int), (t, lv, r, σ)) ∈ out
  | 0, j, out, _, i, h1, h2 => by omega
  | f + 1, j, out, h, i, h1, h2 => by
    unfold pm_sws at h
    split at h
    · rename_i off l ho hs
      split at h
      · rename_i t ht
        cases h
        by_cases hi : i = j
        · subst hi
          exact ⟨off, t, ho, ht, List.mem_cons_self⟩
        · obtain ⟨o2, t2, k1, k2, k3⟩ := pm_sws_ok hs i (by omega) (by omega)
          exact ⟨o2, t2, k1, k2, List.mem_cons_of_mem _ k3⟩
      · cases h
    · cases h
theorem pm_sw_ok (X : pm_X p R s m args c A b own nL L1 L d cc xs sa cn) {dflt lo hi : Int} {offs : Array Int} (hd : decode cc pc = .ok (.tableswitch dflt lo hi offs, len)) (h : pm_sw dflt lo hi offs pc lv st σ = some o) (hG : pm_NG call Qr σ (pm_G p l e R s m args below meth c Q D A b nL L xs sa wa cn) o) : pm_G p l e R s m args below meth c Q D A b nL L xs sa wa cn (pc, lv, st, σ) := by
  obtain ⟨⟨hx, hb, -⟩, -⟩ := X
  unfold pm_sw at h
  split at h
  · split at h
    · rename_i l t hs ht
      cases h
      intro cv cs ws tys ls H locs M hls hK hP hD hS
      obtain ⟨v1, cr, rfl, e1, e2⟩ := ax_popk M.2.1
      obtain ⟨x, rfl, e5⟩ := pm_ok_i e1
      subst e5
      by_cases c0 : x.toInt < lo ∨ hi < x.toInt
      · refine lv_tableOut hx hb hd c0 (ax_tgt_ok ht) ?_
        exact hG.2 _ (List.mem_append_right _ List.mem_cons_self) c0 cv cr ws tys ls H locs ⟨M.1, e2, M.2.2⟩ hls hK hP hD hS
      · have c1 : ¬ x.toInt < lo := fun z => c0 (Or.inl z)
        have c2 : ¬ hi < x.toInt := fun z => c0 (Or.inr z)
        obtain ⟨off, t2, k1, k2, k3⟩ := pm_sws_ok hs (x.toInt - lo).toNat (Nat.zero_le _) (by omega)
        refine lv_tableIn hx hb hd c1 c2 (by rw [← Array.getElem?_toList]; exact k1) (ax_tgt_ok k2) ?_
        exact hG.2 _ (List.mem_append_left _ k3) (by show x.toInt = _; omega) cv cr ws tys ls H locs ⟨M.1, e2, M.2.2⟩ hls hK hP hD hS
    · cases h
  · cases h
end PMS1
