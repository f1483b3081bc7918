/-! whole_start -/
section AXSTART
set_option maxHeartbeats 4000000 in
theorem whole_start {p : Program} {e : Env} {s : State} {m : MethodId} {below : List Frame} {meth : Method} {c : Code} (l : Launch) (hfl : l.stackTraces = false) {b L : Nat} {xs : Nat → Int32} (hL : L ≤ 8) (C0 : lw_At p s m meth c b L xs) : W p l e room_1 s m #[Value.ref b] below meth c s.heap [] 0 0 (lw_Z below #[Value.ref b] s) (entryFrame m ([Value.ref b] : List Value).toArray 7) := by
  obtain ⟨D, hK⟩ := ax_D (s := s) C0.2.2.2.2.2.1
  have GH : ax_G p l e room_1 s m #[Value.ref b] below meth c (lw_Z below #[Value.ref b] s) D (ax_A s) b (fun _ => 0) [] 7 ax_SH := by
    rcases Nat.lt_or_ge L 8 with h8 | h8
    · have hk := List.all_eq_true.mp ax_k_short L (List.mem_range.mpr h8)
      exact ax_from C0 (ax_lawX C0 (L + 1) (fun _ => ⟨rfl, fun j v h => by simp at h⟩)) hk
    · have hL8 : L = 8 := by omega
      subst hL8
      have X : ax_X p room_1 s m #[Value.ref b] meth c (ax_A s) b (fun _ => 0) (ax_pv xs) 13 false 7 9 600002 7302232 9 code xs := ax_lawX C0 9 (fun _ => ⟨rfl, ax_pv_ok⟩)
      have GP := ax_from (l := l) (e := e) (below := below) (D := D) C0 X ax_k_outend
      have GO := ax_lawout C0 hfl GP
      have Gt : ∀ t ∈ ax_tl, ax_G p l e room_1 s m #[Value.ref b] below meth c (lw_Z below #[Value.ref b] s) D (ax_A s) b (fun _ => 0) (ax_pv xs) 7 (ax_SB t) := by
        intro t ht
        simp only [ax_tl, List.mem_cons, List.not_mem_nil, or_false] at ht
        rcases ht with rfl | rfl | rfl | rfl | rfl | rfl | rfl | rfl | rfl | rfl | rfl | rfl | rfl | rfl | rfl | rfl | rfl | rfl | rfl | rfl | rfl | rfl | rfl | rfl | rfl | rfl
        · exact ax_from C0 X ax_k_156
        · exact ax_from C0 X ax_k_229
        · exact ax_from C0 X ax_k_294
        · exact ax_from C0 X ax_k_319
        · exact (ax_run_ok X (ax_con l 9) _ _ _ _ (ax_is_ok ax_k_out) (fun S hS => by cases List.mem_singleton.mp hS; exact GO)).1 _ List.mem_cons_self
        · exact ax_from C0 X ax_k_412
        · exact ax_from C0 X ax_k_449
        · exact ax_from C0 X ax_k_498
        · exact ax_from C0 X ax_k_547
        · exact ax_from C0 X ax_k_596
        · exact ax_from C0 X ax_k_633
        · exact ax_from C0 X ax_k_682
        · exact ax_from C0 X ax_k_719
        · exact ax_from C0 X ax_k_768
        · exact ax_from C0 X ax_k_805
        · exact ax_from C0 X ax_k_866
        · exact ax_from C0 X ax_k_903
        · exact ax_from C0 X ax_k_968
        · exact ax_from C0 X ax_k_1069
        · exact ax_from C0 X ax_k_1095
        · exact ax_from C0 X ax_k_1168
        · exact ax_from C0 X ax_k_1205
        · exact ax_from C0 X ax_k_1230
        · exact ax_from C0 X ax_k_1255
        · exact ax_from C0 X ax_k_1328
        · exact ax_from C0 X ax_k_1365
      have GB : ax_G p l e room_1 s m #[Value.ref b] below meth c (lw_Z below #[Value.ref b] s) D (ax_A s) b (fun _ => 0) (ax_pv xs) 7 (ax_SB 23) := by
        have hk := ax_k_switch
        unfold ax_swk at hk
        split at hk
        · rename_i l2 hl2
          refine (ax_run_ok X (ax_con l 9) _ _ _ _ hl2 (fun S hS => ?_)).1 _ List.mem_cons_self
          have h1 := List.all_eq_true.mp hk S hS
          simp only [Bool.and_eq_true, decide_eq_true_eq] at h1
          have h2 : S = ax_SB S.1 := Prod.ext rfl h1.1
          rw [h2]
          exact Gt _ (by simpa using h1.2)
        · cases hk
      intro cv cs ws tys ls H locs M hls hK hP hD hS
      refine GB cv cs ws tys ls H locs ⟨?_, ?_, ?_, M.2.2.2⟩ hls hK hP hD hS
      · exact ⟨ax_top_ok _, ax_top_ok _, ax_top_ok _, ax_top_ok _, ax_top_ok _, ax_top_ok _, ax_top_ok _, ax_top_ok _, trivial⟩
      · have M2 := M.2.1
        obtain ⟨r4, cv, rfl, a4, M2⟩ := ax_popk M2
        obtain ⟨r3, cv, rfl, a3, M2⟩ := ax_popk M2
        obtain ⟨r2, cv, rfl, a2, M2⟩ := ax_popk M2
        obtain ⟨r1, cv, rfl, a1, M2⟩ := ax_popk M2
        obtain ⟨r0, cv, rfl, a0, M2⟩ := ax_popk M2
        cases cv with
        | cons => exact M2.elim
        | nil =>
        obtain ⟨x, hx4, hx5⟩ := ax_ok_i a4.2.1
        refine ⟨⟨a4.1, ?_, fun j h => by cases h⟩, ⟨a3.1, a3.2.1, fun j h => by cases h⟩, ⟨a2.1, a2.2.1, fun j h => by cases h⟩, ⟨a1.1, a1.2.1, fun j h => by cases h⟩, ⟨a0.1, a0.2.1, fun j h => by cases h⟩, trivial⟩
        rw [hx4]
        refine ⟨hx5.1, fun g2 c2 h => ?_⟩
        have h6 := hx5.1
        dsimp only at h6
        simp at h
        obtain ⟨rfl, rfl⟩ := h
        show x.toInt = (0 : Int) + 0
        omega
      · have M3 := M.2.2.1
        cases cs with
        | cons => exact M3.elim
        | nil => exact trivial
  have X0 := ax_lawX (pv := []) (γ := fun _ => 0) C0 0 (fun h => absurd h (by omega))
  have G0 := (ax_run_ok (l := l) (e := e) (below := below) (Q := lw_Z below #[Value.ref b] s) (D := D) X0 (ax_con l 9) _ _ _ _ (ax_is_ok ax_k_head) (fun S hS => by cases List.mem_singleton.mp hS; exact GH)).1 _ List.mem_cons_self
  have hl := lv_entry ([.ref b]) (n := 7) (Nat.le_of_ble_eq_true rfl)
  rw [lg_entry_eq]
  refine G0 [(0, .ref b)] [] [] [] _ s.heap [] ⟨trivial, ⟨⟨rfl, rfl, fun j h => by cases h⟩, trivial⟩, trivial, trivial⟩ hl hK (fun k q h => by simp at h) ⟨fun i j p q h => by simp at h, fun k q h => by simp at h⟩ va_S.rf
end AXSTART
set_option maxHeartbeats 4000000 in
theorem lw_walk (l : Launch) (hfl : l.stackTraces = false) (b : Addr) (xs : List Int32) : MetFree l x (headSpec (Jvm.Cond.code x code maxLocals ret :: tables_1) room_1) (lw_P b xs) (fun _ _ _ _ _ => True) lw_Q := by
  refine MetFree.of_bodyS (code := code) (maxLocals := maxLocals) (ret := ret) (by decide) ?_ ?_
  · intro args s m h hn
    obtain ⟨meth, c, h1, h2, h3, h4, h5, h6, -, -⟩ := Cond.code_spec hn (atoms_spec (ws := Jvm.Cond.code x code maxLocals ret :: tables_1) h _ List.mem_cons_self)
    exact ⟨meth, c, h1, h2, h3, h4, h5, h6⟩
  · intro p e s m args below meth c s₁ B hml0 hP _
    obtain ⟨rfl, hx, hbd, hgv⟩ := hP
    obtain ⟨scr, harrAt, hlist, hof, hsmall⟩ := hx
    obtain ⟨hcb, hkn, -, -⟩ := State.arrayAt?_spec harrAt
    have hown : s.vm.findClass R_law = some m.cls := findClass_of_methodNamed B.named
    have hts0 : ∀ c ∈ (Jvm.Cond.code x code maxLocals ret :: tables_1), c.before #[Value.ref b] s = true := atoms_spec (ws := Jvm.Cond.code x code maxLocals ret :: tables_1) B.pre
    have hts : ∀ w ∈ lw_tbl, w.before #[Value.ref b] s = true := k2_hts_sels lw_privs (fun w hw => hts0 w (List.mem_cons_of_mem _ hw)) lw_privs_ok
    have hml : c.maxLocals = 7 := B.maxLocals_eq (hts0 _ List.mem_cons_self)
    have X₀ : Stand p l e room_1 s m #[Value.ref b] below meth c s₁ [] 0 0 := Stand.of_body B
    have hh0 : s₁.heap = s.heap := by rw [B.state]; rfl
    have hsz : scr.slots.size = xs.length := by rw [← Array.length_toList, hlist, List.length_map]
    have hval : ∀ j : Nat, j < xs.length → scr.slots[j]? = some (.int (xs.getD j 0)) := fun j hj => by
      rw [← Array.getElem?_toList, hlist]
      simp [hj]
    have hbl : b < s.heap.size := (Array.getElem?_eq_some_iff.mp hcb).1
    have hX : va_X b xs.length (fun j => xs.getD j 0) s s.heap := ⟨scr, hcb, hof, hkn, hsz, hval⟩
    have K : W p l e room_1 s m #[Value.ref b] below meth c s₁.heap [] 0 0 (lw_Z below #[Value.ref b] s) (entryFrame m ([Value.ref b] : List Value).toArray 7) := by
      rw [hh0]
      exact whole_start l hfl hbd ⟨B.exec, B.bytes, B.returns, hml, hown, hts, hX, hbl, B.notSynchronized, hgv⟩
    obtain ⟨t, a1, o, b1, b2, b3⟩ := K s₁ rfl X₀
    exact ⟨t, o, a1, b1, b2, b3⟩
theorem lw_pre_spec {args : Array Value} {s : State} (h : (Jvm.Cond.and given_1 narrow_1).before args s = true) (hr : rest_1_c.before args s = true) : ∃ (b : Addr) (xs : List Int32), lw_P b xs args s := by
  have hs := flat_of_before _ h
  have hq := flat_of_before _ hr
  have hc : (Cond.count 1).before args s = true := hs _ (by decide +kernel)
  have harr : (Cond.arrayOf (.arg 0) .int).before args s = true := hs _ (by decide +kernel)
  have hle : (Cond.le (.length (.arg 0)) (.int 8)).before args s = true := hs _ (by decide +kernel)
  have hlen : (Cond.isInt (.length (.arg 0))).before args s = true := hq _ (by decide +kernel)
  have hall : (Cond.all (.arg 0) (.isInt (.elem (.arg 0) (.index 0)))).before args s = true := hq _ (by decide +kernel)
  obtain ⟨b, xs, hb, hx⟩ := State.ints_of_pre rfl harr hlen hall
  have hsm : xs.length < 2 ^ 31 := hx.choose_spec.2.2.2
  have hev : (Term.length (.arg 0)).eval args s none [] s = some (.int xs.length.toInt32) := hx.length_eval hb
  have hv := Cond.le_ints hev (show (Term.int 8).eval args s none [] s = some (.int 8) from rfl)
  have hd : xs.length.toInt32 ≤ 8 := by
    simpa [Cond.before, Cond.holds, hv] using hle
  have hN : xs.length ≤ 8 := (Int32.ofNat_le_ofNat hsm (by decide)).mp (show Int32.ofNat xs.length ≤ Int32.ofNat 8 from hd)
  exact ⟨b, xs, Cond.one_arg hc (show args[0]? = some (.ref b) from hb), hx, hN, h⟩
theorem lw_comes (l : Launch) (hfl : l.stackTraces = false) : Comes l x (Jvm.Cond.code x code maxLocals ret :: tables_1) room_1 (fun tb e args s => Calls_1 tb e args s ∧ rest_1 tb e args s ∧ Pre_1 tb e args s)
    (fun _ _ args s o t => lw_Q args s o t) := by
  intro p e ha hc hk s m args below hf hfit hheap happ hpre
  obtain ⟨b, xs, hP⟩ := lw_pre_spec hpre.2.2 hpre.2.1
  obtain ⟨k, o, h1, h2, h3, hQ⟩ := lw_walk l hfl b xs p e ha hc hk s m args below hf ((Spec.applies_iff_loose hf).mp happ).1 hP trivial
  exact ⟨k, o, h1, h2, h3, hQ⟩
theorem lw_frame {s t : State} {o : Outcome} {args : Array Value} (h : Framed s o t [] 600002 7302232) :
    Framed s o t (fieldLocs frame_1_writes args s ++ arrayLocs frame_1_arrays args s ++ staticLocs frame_1_statics s) 600002 7302232 := h
theorem lw_limb (L : Cond) (hL : ∀ (args : Array Value) (s t : State), L.after args s (.returned (some (.int 1))) t = true) :
    ArmFor flags0 classFile x code maxLocals ret World_1 tables_1 room_1 Calls_1 rest_1 Pre_1
      (fun tb e a s o t => postC L tb e a s o t ∧ Framed s o t (fieldLocs frame_1_writes a s ++ arrayLocs frame_1_arrays a s ++ staticLocs frame_1_statics s) 600002 7302232) := by
  intro l hfl0 _ _ p e ha hc hk s m args below hf hfit hheap happ hpre
  obtain ⟨k, o, h1, h2, h3, rfl, hF⟩ := lw_comes l (by unfold Launch.stackTraces; rw [hfl0]; decide +kernel) p e ha hc hk s m args below hf hfit hheap happ hpre
  exact ⟨k, _, h1, h2, h3, hL args s _, lw_frame hF⟩
theorem i_vc : Claimed_1_1 ∧ Claimed_1_2 := ⟨lw_limb limb_1_1 (fun args s t => by simp [limb_1_1, Cond.after, Cond.holds, Cond.value]), lw_limb limb_1_2 (fun args s t => Cond.after_iff.mpr (by
  first | (rw [show limb_1_2 = Cond.eq .result (.int 1) from rfl, Cond.eq_ints (x := 1) (y := 1) rfl rfl]; simp; done) | (simp [limb_1_2, Cond.value, Term.eval]; done)))⟩
