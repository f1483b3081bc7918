/-! triples: what the methods say of a text, put together -/
section PTM
variable {T : Int → Int} {k row sg nm k' : Int} {m : pc_M}
theorem pt_Aq {q : Int} {k k' row sg nm : Int} {m : pc_M} (h : ∀ (fi n : Int) (L : List pc_M), pt_stp T q k row sg nm m fi n L = pt_stp T q k' row sg nm m fi n L) : pt_A T q k row sg nm m q k' row sg nm m := fun _ fi n L r h' => by
  obtain ⟨f, h'⟩ := h'
  cases f with
  | zero =>
    unfold pt_run at h'
    exact absurd h' (by simp)
  | succ f =>
    refine ⟨f + 1, ?_⟩
    unfold pt_run at h' ⊢
    rw [h fi n L]
    exact h'
theorem pt_1k (hl : pt_lim T) (hk : 0 ≤ k) (e : k' = pt_sk T k) : pt_A T 1 k row sg nm m 1 k' row sg nm m := by
  subst e
  refine pt_Aq fun fi n L => ?_
  unfold pt_stp
  simp [pt_sk_sk hl hk]
theorem pt_2k (hl : pt_lim T) (hk : 0 ≤ k) (e : k' = pt_sk T k) : pt_A T 2 k row sg nm m 2 k' row sg nm m := by
  subst e
  refine pt_Aq fun fi n L => ?_
  unfold pt_stp
  simp [pt_sk_sk hl hk]
theorem pt_3k (hl : pt_lim T) (hk : 0 ≤ k) (e : k' = pt_sk T k) : pt_A T 3 k row sg nm m 3 k' row sg nm m := by
  subst e
  refine pt_Aq fun fi n L => ?_
  unfold pt_stp
  simp [pt_sk_sk hl hk]
theorem pt_6k (hl : pt_lim T) (hk : 0 ≤ k) (e : k' = pt_sk T k) : pt_A T 6 k row sg nm m 6 k' row sg nm m := by
  subst e
  refine pt_Aq fun fi n L => ?_
  unfold pt_stp
  simp [pt_sk_sk hl hk]
theorem pt_7k (hl : pt_lim T) (hk : 0 ≤ k) (e : k' = pt_sk T k) : pt_A T 7 k row sg nm m 7 k' row sg nm m := by
  subst e
  refine pt_Aq fun fi n L => ?_
  unfold pt_stp
  simp [pt_sk_sk hl hk]
theorem pt_0k (hl : pt_lim T) (hk : 0 ≤ k) (e : k' = pt_sk T k) {n : Int} {L : List pc_M} {r : pt_R} (h : pt_Q0 T k' n L r) : pt_Q0 T k n L r := by
  subst e
  refine pt_Aq (q := 0) (fun fi n L => ?_) trivial 0 n L r h
  unfold pt_stp
  simp [pt_sk_sk hl hk]
/-- the reference's token, as it stands in the heap -/
def pt_CS (T : Int → Int) (n : Int) (τ : pm_H) : Prop := True → (τ 77 27 = pt_tr (pt_tk T (τ 77 25)) ∧ pt_sk T (τ 77 25) = τ 77 25 ∧ τ 77 26 = pt_te T (τ 77 25) ∧ (pt_tk T (τ 77 25) = 48 → τ 77 28 = pt_vl T (τ 77 25)) ∧ 0 ≤ τ 77 25 ∧ τ 77 25 ≤ n ∧ τ 77 26 ≤ n)
theorem pt_CS_E {n s : Int} {τ : pm_H} (h25 : τ 77 25 = s) (h27 : τ 77 27 = 0) (h26 : τ 77 26 = s) (hT : T s = -1) (hs : 0 ≤ s) (hn : s ≤ n) : pt_CS T n τ := fun _ => by
  have c := pt_c5 T s
  have k := @pt_sk_n T s
  rw [h25, h27, h26]
  omega
theorem pt_CS_C {n s : Int} {τ : pm_H} (h25 : τ 77 25 = s) (h27 : τ 77 27 = T s) (h26 : τ 77 26 = s + 1) (hT : T s = 43 ∨ T s = 45 ∨ T s = 44 ∨ T s = 59 ∨ T s = 47 ∨ (120 ≤ T s ∧ T s ≤ 122)) (hs : 0 ≤ s) (hn : s + 1 ≤ n) : pt_CS T n τ := fun _ => by
  have c := pt_c5 T s
  have k := @pt_sk_n T s
  rw [h25, h27, h26]
  omega
theorem pt_CS_X {n s : Int} {τ : pm_H} (h25 : τ 77 25 = s) (h27 : τ 77 27 = 1) (h26 : τ 77 26 = s + 1) (h1 : T s ≠ -1) (h2 : T s ≠ 32) (h3 : ¬ (48 ≤ T s ∧ T s ≤ 57)) (hT : ¬ (T s = 43 ∨ T s = 45 ∨ T s = 44 ∨ T s = 59 ∨ T s = 47 ∨ (120 ≤ T s ∧ T s ≤ 122))) (hs : 0 ≤ s) (hn : s + 1 ≤ n) : pt_CS T n τ := fun _ => by
  have c := pt_c5 T s
  have k := @pt_sk_n T s
  rw [h25, h27, h26]
  omega
/-- the value of the digits from s to e -/
def pt_V (T : Int → Int) (s e v : Int) : Prop := True → ((e = s → v = 0) ∧ (e = s + 1 → v = T s - 48) ∧ (s + 2 ≤ e → v = 10 * (T s - 48) + (T (s + 1) - 48)))
theorem pt_V_0 {s e v : Int} (he : e = s) (hv : v = 0) : pt_V T s e v := fun _ => by omega
theorem pt_V_s {s e e' v v' : Int} (h : pt_V T s e v) (h1 : s ≤ e) (h2 : e < s + 2) (he : e' = e + 1) (hv : v' = 10 * v + T e - 48) : pt_V T s e' v' := fun _ => by
  have z := h trivial
  have c : e = s ∨ e = s + 1 := by omega
  rcases c with c | c <;> subst c <;> omega
theorem pt_V_k {s e e' v : Int} (h : pt_V T s e v) (h1 : s + 2 ≤ e) (he : e' = e + 1) : pt_V T s e' v := fun _ => by
  have z := h trivial
  omega
theorem pt_V_e {s e v : Int} (h : pt_V T s e v) (h1 : s + 1 ≤ e) (hd : pt_dg T s = e) : pt_vl T s = v := by
  have z := h trivial
  have w := pt_vl_v T s
  omega
theorem pt_CS_N {n s e v : Int} {τ : pm_H} (h25 : τ 77 25 = s) (h27 : (τ 77 27 = 2 ∧ e - s ≤ 2) ∨ (τ 77 27 = 1 ∧ 2 < e - s)) (h26 : τ 77 26 = e) (h28 : τ 77 28 = v) (hV : pt_V T s e v) (hd : pt_dg T s = e) (hT : 48 ≤ T s ∧ T s ≤ 57) (hs : 0 ≤ s) (h1 : s + 1 ≤ e) (hn : e ≤ n) : pt_CS T n τ := fun _ => by
  have c := pt_c5 T s
  have k := @pt_sk_n T s
  have w := pt_V_e hV h1 hd
  rw [h25, h26, h28]
  omega
theorem pt_CS_2 {n s e v : Int} {τ : pm_H} (h25 : τ 77 25 = s) (h27 : τ 77 27 = 2) (he : e - s ≤ 2) (h26 : τ 77 26 = e) (h28 : τ 77 28 = v) (hV : pt_V T s e v) (hd : pt_dg T s = e) (hT : 48 ≤ T s ∧ T s ≤ 57) (hs : 0 ≤ s) (h1 : s + 1 ≤ e) (hn : e ≤ n) : pt_CS T n τ := pt_CS_N h25 (Or.inl ⟨h27, he⟩) h26 h28 hV hd hT hs h1 hn
theorem pt_CS_1 {n s e v : Int} {τ : pm_H} (h25 : τ 77 25 = s) (h27 : τ 77 27 = 1) (he : 2 < e - s) (h26 : τ 77 26 = e) (h28 : τ 77 28 = v) (hV : pt_V T s e v) (hd : pt_dg T s = e) (hT : 48 ≤ T s ∧ T s ≤ 57) (hs : 0 ≤ s) (h1 : s + 1 ≤ e) (hn : e ≤ n) : pt_CS T n τ := pt_CS_N h25 (Or.inr ⟨h27, he⟩) h26 h28 hV hd hT hs h1 hn
theorem pt_CS_n {n n' : Int} {τ : pm_H} (h : pt_CS T n τ) (e : n' = n) : pt_CS T n' τ := by
  rw [e]
  exact h
theorem pt_CS_eq {n : Int} {σ τ : pm_H} (h : pt_CS T n σ) (h5 : τ 77 25 = σ 77 25) (h6 : τ 77 26 = σ 77 26) (h7 : τ 77 27 = σ 77 27) (h8 : τ 77 28 = σ 77 28) : pt_CS T n τ := fun t => by
  rw [h5, h6, h7, h8]
  exact h t
/-- the reference's readSum, at the head of its loop -/
def pt_H7 (T : Int → Int) (k0 row : Int) (m0 : pc_M) (k x2 x4 : Int) (m : pc_M) : Prop := True → ((x4 = 1 ∧ k = k0 ∧ x2 = 0 ∧ m = m0) ∨ (x4 = 0 ∧ pt_A T 1 k0 row 1 0 m0 3 k row 1 x2 m))
theorem pt_H7_0 {k0 x2 x4 : Int} {m0 : pc_M} (h1 : x4 = 1) (h2 : k = k0) (h3 : x2 = 0) (h4 : m = m0) : pt_H7 T k0 row m0 k x2 x4 m := fun _ => Or.inl ⟨h1, h2, h3, h4⟩
theorem pt_H7_1 {k0 x2 x4 : Int} {m0 : pc_M} (h1 : x4 = 0) (h : pt_A T 1 k0 row 1 0 m0 3 k row 1 x2 m) : pt_H7 T k0 row m0 k x2 x4 m := fun _ => Or.inr ⟨h1, h⟩
/-- a sign was there -/
theorem pt_H7_p (hl : pt_lim T) {k0 x2 x4 sg' : Int} {m0 : pc_M} (h : pt_H7 T k0 row m0 k x2 x4 m) (hk : 0 ≤ k) (hs : pt_sk T k = k) (ht : (T k = 43 ∧ sg' = 1) ∨ (T k = 45 ∧ sg' = -1)) (he : k' = pt_sk T (k + 1)) : pt_A T 1 k0 row 1 0 m0 2 k' row sg' x2 m := by
  rcases h trivial with ⟨_, e1, e2, e3⟩ | ⟨_, a⟩
  · subst e1 e2 e3
    rcases ht with ⟨t, g⟩ | ⟨t, g⟩
    · exact pt_A_tr (pt_1p_ (s := k) hs.symm t rfl g rfl) (pt_2k hl (by omega) he)
    · exact pt_A_tr (pt_1m_ (s := k) hs.symm t rfl g rfl) (pt_2k hl (by omega) he)
  · rcases ht with ⟨t, g⟩ | ⟨t, g⟩
    · exact pt_A_tr a (pt_A_tr (pt_3p_ (s := k) hs.symm t rfl g) (pt_2k hl (by omega) he))
    · exact pt_A_tr a (pt_A_tr (pt_3m_ (s := k) hs.symm t rfl g) (pt_2k hl (by omega) he))
/-- none was there, and none had to be -/
theorem pt_H7_n {k0 x2 x4 sg' : Int} {m0 : pc_M} (h : pt_H7 T k0 row m0 k x2 x4 m) (h4 : x4 = 1) (hs : pt_sk T k = k) (h1 : T k ≠ 43) (h2 : T k ≠ 45) (hg : sg' = 1) : pt_A T 1 k0 row 1 0 m0 2 k row sg' x2 m := by
  rcases h trivial with ⟨_, e1, e2, e3⟩ | ⟨e, _⟩
  · subst e1 e2 e3
    exact pt_1n_ hs.symm h1 h2 hg rfl
  · omega
/-- the end of it -/
theorem pt_H7_e {k0 x2 x4 : Int} {m0 : pc_M} (h : pt_H7 T k0 row m0 k x2 x4 m) (h4 : x4 = 0) (hs : pt_sk T k = k) (h1 : T k ≠ 43) (h2 : T k ≠ 45) : pt_A T 1 k0 row 1 0 m0 4 k row 1 0 m := by
  rcases h trivial with ⟨e, _⟩ | ⟨_, a⟩
  · omega
  · exact pt_A_tr a (pt_3n_ hs.symm h1 h2)
-- the rules, at the reference's token
variable {n sg' nm' i : Int} {τ σ : pm_H} {q : Nat} {f : Int}
theorem pt_CS_gt (hl : pt_lim T) (cs : pt_CS T n τ) : ¬ (τ 77 27 = 0) → τ 77 25 + 1 ≤ τ 77 26 := fun h => by
  obtain ⟨z1, z2, z3, z4, z5, z6, z7⟩ := cs trivial
  have c := pt_c5 T (τ 77 25)
  have g := pt_dg_gt hl z5
  omega
theorem pt_CS_sg (cs : pt_CS T n τ) (c : Int) (hc : 3 ≤ c) (h : τ 77 27 = c) : T (τ 77 25) = c ∧ pt_tk T (τ 77 25) = c ∧ τ 77 26 = τ 77 25 + 1 ∧ pt_sk T (τ 77 25) = τ 77 25 := by
  obtain ⟨z1, z2, z3, z4, z5, z6, z7⟩ := cs trivial
  have c := pt_c5 T (τ 77 25)
  omega
theorem pt_CS_no (cs : pt_CS T n τ) (c : Int) (hc : c = 43 ∨ c = 45 ∨ c = 44 ∨ c = 59 ∨ c = 47) (h : ¬ (τ 77 27 = c)) : T (τ 77 25) ≠ c := by
  obtain ⟨z1, z2, z3, z4, z5, z6, z7⟩ := cs trivial
  have c := pt_c5 T (τ 77 25)
  omega
theorem pt_CS_sk (cs : pt_CS T n τ) : pt_sk T (τ 77 25) = τ 77 25 ∧ 0 ≤ τ 77 25 ∧ τ 77 25 ≤ n ∧ τ 77 26 ≤ n := by
  obtain ⟨z1, z2, z3, z4, z5, z6, z7⟩ := cs trivial
  exact ⟨z2, z5, z6, z7⟩
theorem pt_CS_48 (cs : pt_CS T n τ) (h : τ 77 27 = 2) : pt_tk T (τ 77 25) = 48 ∧ τ 77 26 = pt_dg T (τ 77 25) ∧ τ 77 28 = pt_vl T (τ 77 25) ∧ 48 ≤ T (τ 77 25) ∧ T (τ 77 25) ≤ 57 ∧ pt_dg T (τ 77 25) - τ 77 25 ≤ 2 := by
  obtain ⟨z1, z2, z3, z4, z5, z6, z7⟩ := cs trivial
  have c := pt_c5 T (τ 77 25)
  omega
theorem pt_CS_28 (hl : pt_lim T) (cs : pt_CS T n τ) : τ 77 27 = 2 → 0 ≤ τ 77 28 ∧ τ 77 28 ≤ 99 := fun h => by
  obtain ⟨a, b, c, d, e, g⟩ := pt_CS_48 cs h
  obtain ⟨_, z, _, _⟩ := pt_CS_sk cs
  have v := pt_vl_v T (τ 77 25)
  have w := @pt_dg_n T (τ 77 25 + 1)
  have y := pt_dg_y hl z ⟨d, e⟩
  have x := pt_dg_ge T (τ 77 25 + 1)
  omega
theorem pt_H7_P (hl : pt_lim T) {k0 x2 x4 : Int} {m0 : pc_M} (h : pt_H7 T k0 row m0 (τ 77 25) x2 x4 m) (cs : pt_CS T n τ) (ht : (τ 77 27 = 43 ∧ sg' = 1) ∨ (τ 77 27 = 45 ∧ sg' = -1)) (he : k' = pt_sk T (τ 77 26)) : pt_A T 1 k0 row 1 0 m0 2 k' row sg' x2 m := by
  obtain ⟨b, z, _, _⟩ := pt_CS_sk cs
  rcases ht with ⟨t, g⟩ | ⟨t, g⟩
  · obtain ⟨a, _, e, _⟩ := pt_CS_sg cs 43 (by decide) t
    rw [e] at he
    exact pt_H7_p hl h z b (Or.inl ⟨a, g⟩) he
  · obtain ⟨a, _, e, _⟩ := pt_CS_sg cs 45 (by decide) t
    rw [e] at he
    exact pt_H7_p hl h z b (Or.inr ⟨a, g⟩) he
theorem pt_H7_N {k0 x2 x4 : Int} {m0 : pc_M} (h : pt_H7 T k0 row m0 (τ 77 25) x2 x4 m) (cs : pt_CS T n τ) (h4 : x4 = 1) (h1 : ¬ (τ 77 27 = 43)) (h2 : ¬ (τ 77 27 = 45)) (hg : sg' = 1) : pt_A T 1 k0 row 1 0 m0 2 (τ 77 25) row sg' x2 m := pt_H7_n h h4 (pt_CS_sk cs).1 (pt_CS_no cs 43 (by decide) h1) (pt_CS_no cs 45 (by decide) h2) hg
theorem pt_H7_E {k0 x2 x4 : Int} {m0 : pc_M} (h : pt_H7 T k0 row m0 (τ 77 25) x2 x4 m) (cs : pt_CS T n τ) (h4 : x4 = 0) (h1 : ¬ (τ 77 27 = 43)) (h2 : ¬ (τ 77 27 = 45)) : pt_A T 1 k0 row 1 0 m0 4 (τ 77 25) row 1 0 m := pt_H7_e h h4 (pt_CS_sk cs).1 (pt_CS_no cs 43 (by decide) h1) (pt_CS_no cs 45 (by decide) h2)
theorem pt_R2x (cs : pt_CS T n τ) (h1 : ¬ (τ 77 27 = 2)) (h2 : ¬ (120 ≤ τ 77 27 ∧ τ 77 27 ≤ 122)) (hf : f = 1) : pt_X T 2 (τ 77 25) row sg nm m f (τ 77 25) := by
  obtain ⟨z1, z2, z3, z4, z5, z6, z7⟩ := cs trivial
  have c := pt_c5 T (τ 77 25)
  exact pt_2x_ z2.symm hf (by omega) (by omega)
theorem pt_R2t (cs : pt_CS T n τ) (h1 : τ 77 27 = 2) (h2 : nm ≠ 0) (hf : f = 2) : pt_X T 2 (τ 77 25) row sg nm m f (τ 77 25) := pt_2t_ (pt_CS_sk cs).1.symm hf (pt_CS_48 cs h1).1 h2
theorem pt_R2n (hl : pt_lim T) (cs : pt_CS T n τ) (h1 : τ 77 27 = 2) (h2 : nm = 0) (hn : nm' = 1) (he : k' = pt_sk T (τ 77 26)) : pt_A T 2 (τ 77 25) row sg nm m 6 k' row sg nm' m := by
  obtain ⟨a, b, _⟩ := pt_CS_48 cs h1
  obtain ⟨c, z, _, _⟩ := pt_CS_sk cs
  have g := pt_CS_gt hl cs (by omega)
  exact pt_A_tr (pt_2n_ c.symm b hn a h2) (pt_6k hl (by omega) he)
theorem pt_R2l (hl : pt_lim T) (cs : pt_CS T n τ) (h : 120 ≤ τ 77 27 ∧ τ 77 27 ≤ 122) (hr : 0 ≤ row ∧ row < 3) (hi : i = 3 * row + (τ 77 27 - 120)) (h0 : σ q i = 0) (he : k' = pt_sk T (τ 77 26)) : pt_A T 2 (τ 77 25) row sg nm (pt_m (σ q) 0) 3 k' row 1 nm (pt_m (pm_up σ q i sg q) 0) := by
  obtain ⟨a, b, e, d⟩ := pt_CS_sg cs _ (by omega) rfl
  obtain ⟨_, z, _, _⟩ := pt_CS_sk cs
  rw [e] at he
  exact pt_A_tr (pt_2lr d.symm hr (by omega) (by omega) h0 rfl) (pt_3k hl (by omega) he)
theorem pt_R2w (cs : pt_CS T n τ) (h : 120 ≤ τ 77 27 ∧ τ 77 27 ≤ 122) (hr : 0 ≤ row ∧ row < 3) (hi : i = 3 * row + (τ 77 27 - 120)) (h0 : ¬ (σ q i = 0)) (hf : f = 2) : pt_X T 2 (τ 77 25) row sg nm (pt_m (σ q) 0) f (τ 77 25) := by
  obtain ⟨a, b, e, d⟩ := pt_CS_sg cs _ (by omega) rfl
  exact pt_2wr d.symm hf hr (by omega) (by omega) h0
theorem pt_R6s (hl : pt_lim T) (cs : pt_CS T n τ) (h : τ 77 27 = 47) (hn : nm' = 1) (he : k' = pt_sk T (τ 77 26)) : pt_A T 6 (τ 77 25) row sg nm m 7 k' row sg nm' m := by
  obtain ⟨a, b, e, d⟩ := pt_CS_sg cs _ (by decide) h
  obtain ⟨_, z, _, _⟩ := pt_CS_sk cs
  rw [e] at he
  exact pt_A_tr (pt_6s_ d.symm a rfl hn) (pt_7k hl (by omega) he)
theorem pt_R6n (cs : pt_CS T n τ) (h : ¬ (τ 77 27 = 47)) (hn : nm' = 1) : pt_A T 6 (τ 77 25) row sg nm m 3 (τ 77 25) row 1 nm' m := pt_6n_ (pt_CS_sk cs).1.symm (pt_CS_no cs 47 (by decide) h) hn
theorem pt_R7x (cs : pt_CS T n τ) (h : ¬ (τ 77 27 = 2)) (hf : f = 1) : pt_X T 7 (τ 77 25) row sg nm m f (τ 77 25) := by
  obtain ⟨z1, z2, z3, z4, z5, z6, z7⟩ := cs trivial
  have c := pt_c5 T (τ 77 25)
  exact pt_7x_ z2.symm hf (by omega)
theorem pt_R7p (hl : pt_lim T) (cs : pt_CS T n τ) (h : τ 77 27 = 2) (h2 : τ 77 28 = 0 ∨ ¬ (24 % τ 77 28 = 0)) (hf : f = 3) : pt_X T 7 (τ 77 25) row sg nm m f (τ 77 25) := by
  obtain ⟨a, b, c, _⟩ := pt_CS_48 cs h
  refine pt_7p_ (pt_CS_sk cs).1.symm hf a ?_
  rw [← c]
  rcases h2 with e | e
  · exact Or.inl (by omega)
  · exact Or.inr e
theorem pt_R7q (hl : pt_lim T) (cs : pt_CS T n τ) (h : τ 77 27 = 2) (h1 : ¬ (τ 77 28 = 0)) (h2 : 24 % τ 77 28 = 0) (hn : nm' = 1) (he : k' = pt_sk T (τ 77 26)) : pt_A T 7 (τ 77 25) row sg nm m 3 k' row 1 nm' m := by
  obtain ⟨a, b, c, _⟩ := pt_CS_48 cs h
  have w := pt_CS_28 hl cs h
  have g := pt_CS_gt hl cs (by omega)
  obtain ⟨d, z, _, _⟩ := pt_CS_sk cs
  refine pt_A_tr (pt_7q_ d.symm b hn a ⟨by omega, ?_⟩) (pt_3k hl (by omega) he)
  rw [← c]
  exact h2
/-- a sum was read -/
def pt_SR (T : Int → Int) (k0 row : Int) (m0 : pc_M) (k : Int) (m : pc_M) (f p : Int) : Prop := True → ((f = 0 ∧ pt_A T 1 k0 row 1 0 m0 4 k row 1 0 m) ∨ (0 < f ∧ pt_X T 1 k0 row 1 0 m0 f p))
theorem pt_SR_0 {k0 f p : Int} {m0 : pc_M} (hf : f = 0) (h : pt_A T 1 k0 row 1 0 m0 4 k row 1 0 m) : pt_SR T k0 row m0 k m f p := fun _ => Or.inl ⟨hf, h⟩
theorem pt_SR_x {k0 f p : Int} {m0 : pc_M} (hf : 0 < f) (h : pt_X T 1 k0 row 1 0 m0 f p) : pt_SR T k0 row m0 k m f p := fun _ => Or.inr ⟨hf, h⟩
/-- readTriple, ahead of row n -/
def pt_H28 (T : Int → Int) (k0 n k : Int) (m : pc_M) (f p : Int) : Prop := True → ((f = 0 ∧ n = 0 ∧ k = k0 ∧ m = pt_0) ∨ (f = 0 ∧ 0 < n ∧ pt_A T 1 k0 0 1 0 pt_0 4 k (n - 1) 1 0 m) ∨ (0 < f ∧ pt_X T 1 k0 0 1 0 pt_0 f p))
theorem pt_H28_0 {k0 n f p : Int} (h1 : f = 0) (h2 : n = 0) (h3 : k = k0) (h4 : m = pt_0) : pt_H28 T k0 n k m f p := fun _ => Or.inl ⟨h1, h2, h3, h4⟩
theorem pt_H28_a {k0 n n' f p f' p' : Int} {m' : pc_M} (h : pt_H28 T k0 n k m f p) (hf : f = 0) (hn : n = 0) (hn' : n' = 1) (s : pt_SR T k n m k' m' f' p') : pt_H28 T k0 n' k' m' f' p' := by
  intro _
  rcases h trivial with ⟨_, _, e1, e2⟩ | ⟨_, e, _⟩ | ⟨e, _⟩
  · subst e1 e2 hn hn'
    rcases s trivial with ⟨z, a⟩ | ⟨z, x⟩
    · exact Or.inr (Or.inl ⟨z, by omega, a⟩)
    · exact Or.inr (Or.inr ⟨z, x⟩)
  · omega
  · omega
theorem pt_H28_b (hl : pt_lim T) {k0 n n' f p f' p' kk : Int} {m' : pc_M} (h : pt_H28 T k0 n k m f p) (hf : f = 0) (hn : 0 < n) (h3 : n < 3) (hn' : n' = n + 1) (hk : 0 ≤ k) (hs : pt_sk T k = k) (ht : T k = 44) (hkk : kk = pt_sk T (k + 1)) (s : pt_SR T kk n m k' m' f' p') : pt_H28 T k0 n' k' m' f' p' := by
  intro _
  rcases h trivial with ⟨_, e, _⟩ | ⟨_, _, a⟩ | ⟨e, _⟩
  · omega
  · have b := pt_A_tr a (pt_A_tr (pt_4c_ (s := k) (k' := k + 1) (row' := n) (by omega) hs.symm ht rfl (by omega)) (pt_1k hl (by omega) hkk))
    subst hn'
    rcases s trivial with ⟨z, c⟩ | ⟨z, x⟩
    · refine Or.inr (Or.inl ⟨z, by omega, ?_⟩)
      have e : n + 1 - 1 = n := by omega
      rw [e]
      exact pt_A_tr b c
    · exact Or.inr (Or.inr ⟨z, pt_A_X b x⟩)
  · omega
theorem pt_H28_x {k0 n f p f' : Int} (h : pt_H28 T k0 n k m f p) (hf : f = 0) (hn : 0 < n) (h3 : n < 3) (hs : pt_sk T k = k) (ht : T k ≠ 44) (hf' : f' = 1) : pt_X T 1 k0 0 1 0 pt_0 f' k := by
  rcases h trivial with ⟨_, e, _⟩ | ⟨_, _, a⟩ | ⟨e, _⟩
  · omega
  · exact pt_A_X a (pt_4x_ (by omega) hs.symm hf' ht)
  · omega
theorem pt_H28_f {k0 n f p : Int} (h : pt_H28 T k0 n k m f p) (hf : 0 < f) : pt_X T 1 k0 0 1 0 pt_0 f p := by
  rcases h trivial with ⟨e, _⟩ | ⟨e, _⟩ | ⟨_, x⟩
  · omega
  · omega
  · exact x
theorem pt_H28_c {k0 n' p' : Int} {m' : pc_M} {kk : Int} (hn : 0 ≤ n) (b : pt_A T 1 k0 0 1 0 pt_0 1 kk n 1 0 m) (hn' : n' = n + 1) (s : pt_SR T kk n m k' m' f p') : pt_H28 T k0 n' k' m' f p' := by
  intro _
  subst hn'
  rcases s trivial with ⟨z, c⟩ | ⟨z, x⟩
  · refine Or.inr (Or.inl ⟨z, by omega, ?_⟩)
    have e : n + 1 - 1 = n := by omega
    rw [e]
    exact pt_A_tr b c
  · exact Or.inr (Or.inr ⟨z, pt_A_X b x⟩)
theorem pt_H28_q {k0 p : Int} (h : pt_H28 T k0 n k m f p) (hf : f = 0) (hn : n = 0) : pt_A T 1 k0 0 1 0 pt_0 1 k n 1 0 m := by
  rcases h trivial with ⟨_, _, e1, e2⟩ | ⟨_, e, _⟩ | ⟨e, _⟩
  · subst e1 e2 hn
    exact pt_A_rf
  · omega
  · omega
theorem pt_H28_P (hl : pt_lim T) {k0 p c : Int} (h : pt_H28 T k0 n (τ 77 25) m f p) (cs : pt_CS T c τ) (hf : f = 0) (hn : 0 < n) (h3 : n < 3) (ht : τ 77 27 = 44) (he : k' = pt_sk T (τ 77 26)) : pt_A T 1 k0 0 1 0 pt_0 1 k' n 1 0 m := by
  obtain ⟨a, b, e, d⟩ := pt_CS_sg cs _ (by decide) ht
  obtain ⟨_, z, _, _⟩ := pt_CS_sk cs
  rw [e] at he
  rcases h trivial with ⟨_, e, _⟩ | ⟨_, _, g⟩ | ⟨e, _⟩
  · omega
  · exact pt_A_tr g (pt_A_tr (pt_4c_ (s := τ 77 25) (k' := τ 77 25 + 1) (row' := n) (by omega) d.symm a rfl (by omega)) (pt_1k hl (by omega) he))
  · omega
theorem pt_H28_X {k0 p c f' : Int} (h : pt_H28 T k0 n (τ 77 25) m f p) (cs : pt_CS T c τ) (hf : f = 0) (hn : 0 < n) (h3 : n < 3) (ht : ¬ (τ 77 27 = 44)) (hf' : f' = 1) : pt_X T 1 k0 0 1 0 pt_0 f' (τ 77 25) := pt_H28_x h hf hn h3 (pt_CS_sk cs).1 (pt_CS_no cs 44 (by decide) ht) hf'
theorem pt_det (g : Int → Int) : pm_det g 0 = pc_dt (pt_m g 0) := by
  unfold pm_det pc_dt pt_m
  simp only [Int.zero_add]
theorem pt_m_0 (h : pm_rg τ 83 0 9 0 0) : pt_m (τ 83) 0 = pt_0 := by
  have z := fun (j : Int) (a : 0 ≤ j) (b : j < 9) => h j a b
  unfold pt_m pt_0
  simp only [Prod.mk.injEq]
  refine ⟨?_, ?_, ?_, ?_, ?_, ?_, ?_, ?_, ?_⟩
  · have := z 0 (by omega) (by omega); omega
  · have := z (0 + 1) (by omega) (by omega); omega
  · have := z (0 + 2) (by omega) (by omega); omega
  · have := z (0 + 3) (by omega) (by omega); omega
  · have := z (0 + 4) (by omega) (by omega); omega
  · have := z (0 + 5) (by omega) (by omega); omega
  · have := z (0 + 6) (by omega) (by omega); omega
  · have := z (0 + 7) (by omega) (by omega); omega
  · have := z (0 + 8) (by omega) (by omega); omega
theorem pt_m_g {a : Int} {q : Nat} (h : pm_er τ q a (a + 9) (fun k => σ 83 (k - a))) : pt_m (τ q) a = pt_m (σ 83) 0 := by
  unfold pt_m
  simp only [Prod.mk.injEq]
  refine ⟨?_, ?_, ?_, ?_, ?_, ?_, ?_, ?_, ?_⟩
  · exact (h a (by omega) (by omega)).trans (by show σ 83 (a - a) = _; congr 1; omega)
  · exact (h (a + 1) (by omega) (by omega)).trans (by show σ 83 ((a + 1) - a) = _; congr 1; omega)
  · exact (h (a + 2) (by omega) (by omega)).trans (by show σ 83 ((a + 2) - a) = _; congr 1; omega)
  · exact (h (a + 3) (by omega) (by omega)).trans (by show σ 83 ((a + 3) - a) = _; congr 1; omega)
  · exact (h (a + 4) (by omega) (by omega)).trans (by show σ 83 ((a + 4) - a) = _; congr 1; omega)
  · exact (h (a + 5) (by omega) (by omega)).trans (by show σ 83 ((a + 5) - a) = _; congr 1; omega)
  · exact (h (a + 6) (by omega) (by omega)).trans (by show σ 83 ((a + 6) - a) = _; congr 1; omega)
  · exact (h (a + 7) (by omega) (by omega)).trans (by show σ 83 ((a + 7) - a) = _; congr 1; omega)
  · exact (h (a + 8) (by omega) (by omega)).trans (by show σ 83 ((a + 8) - a) = _; congr 1; omega)
/-- a triple was read -/
def pt_TR (T : Int → Int) (k0 k : Int) (m : pc_M) (f p : Int) : Prop := True → ((f = 0 ∧ ∀ (n : Int) (L : List pc_M) (r : pt_R), pt_Q5 T k n (L ++ [m]) r → pt_Res T (1, k0, 0, 1, 0, pt_0, k0, n, L) r) ∨ (0 < f ∧ ∀ (n : Int) (L : List pc_M), pt_Res T (1, k0, 0, 1, 0, pt_0, k0, n, L) (f, p, [])))
theorem pt_TR_x {k0 f p : Int} (hf : 0 < f) (h : pt_X T 1 k0 0 1 0 pt_0 f p) : pt_TR T k0 k m f p := fun _ => Or.inr ⟨hf, fun n L => h trivial k0 n L⟩
theorem pt_TR_0 {k0 n f p f' p' : Int} {m' : pc_M} (h : pt_H28 T k0 n k m f p) (hf : f = 0) (hn : n = 3) (hd : pc_dt m = 1 ∨ pc_dt m = -1) (hm : m' = m) (hf' : f' = 0) : pt_TR T k0 k m' f' p' := by
  intro _
  subst hm hn
  refine Or.inl ⟨hf', fun n L r h' => ?_⟩
  rcases h trivial with ⟨_, e, _⟩ | ⟨_, _, a⟩ | ⟨e, _⟩
  · omega
  · exact a trivial k0 n L r (pt_4d (by decide) hd h')
  · omega
theorem pt_TR_d {k0 n f p f' p' : Int} {m' : pc_M} (h : pt_H28 T k0 n k m f p) (hf : f = 0) (hn : n = 3) (hd : ¬ (pc_dt m = 1 ∨ pc_dt m = -1)) (hf' : f' = 4) (hp' : p' = k0) : pt_TR T k0 k m' f' p' := by
  intro _
  subst hn hf' hp'
  refine Or.inr ⟨by decide, fun n L => ?_⟩
  rcases h trivial with ⟨_, e, _⟩ | ⟨_, _, a⟩ | ⟨e, _⟩
  · omega
  · exact a trivial _ n L _ (pt_4f (by decide) hd)
  · omega
/-- all triples: ahead of one, or behind the last -/
def pt_H13 (T : Int → Int) (n g k : Int) (L : List pc_M) : Prop := True → ((g = 1 ∧ ∀ r, pt_Q0 T k n L r → pt_Q0 T 0 0 [] r) ∨ (g = 0 ∧ ∀ r, pt_Q5 T k (n - 1) L r → pt_Q0 T 0 0 [] r))
/-- what all of them say -/
def pt_RR (T : Int → Int) (f p : Int) (L : List pc_M) : Prop := True → ((f = 0 ∧ p = -1 ∧ pt_Q0 T 0 0 [] (0, -1, L)) ∨ (0 < f ∧ pt_Q0 T 0 0 [] (f, p, [])))
theorem pt_H13_0 (hl : pt_lim T) {n g : Int} {L : List pc_M} (hn : n = 0) (hg : g = 1) (hk : k = pt_sk T 0) (hL : L = []) : pt_H13 T n g k L := fun _ => Or.inl ⟨hg, fun r h => by
  subst hn hL
  exact pt_0k hl (by omega) hk h⟩
theorem pt_H13_x {n g f p : Int} {L L' : List pc_M} (h : pt_H13 T n g k L) (hg : g = 1) (hs : pt_sk T k = k) (hb : ¬ pt_b0 (pt_tk T k)) (hf : f = 1) (hp : p = k) : pt_RR T f p L' := fun _ => by
  subst hf hp
  refine Or.inr ⟨by decide, ?_⟩
  rcases h trivial with ⟨_, a⟩ | ⟨e, _⟩
  · refine a _ ?_
    have x := pt_0x (T := T) (k := p) (n := n) (L := L) (by rw [hs]; exact hb)
    rw [hs] at x
    exact x
  · omega
theorem pt_H13_m {n g f p : Int} {L L' : List pc_M} (h : pt_H13 T n g k L) (hg : g = 1) (hs : pt_sk T k = k) (hb : pt_b0 (pt_tk T k)) (hn : 12 ≤ n) (hf : f = 5) (hp : p = k) : pt_RR T f p L' := fun _ => by
  subst hf hp
  refine Or.inr ⟨by decide, ?_⟩
  rcases h trivial with ⟨_, a⟩ | ⟨e, _⟩
  · refine a _ ?_
    have x := pt_0m (T := T) (k := p) (n := n) (L := L) (by rw [hs]; exact hb) hn
    rw [hs] at x
    exact x
  · omega
theorem pt_H13_f {n g f p : Int} {L L' : List pc_M} (h : pt_H13 T n g k L) (hg : g = 1) (hs : pt_sk T k = k) (hb : pt_b0 (pt_tk T k)) (hn : n < 12) (t : pt_TR T k k' m f p) (hf : 0 < f) : pt_RR T f p L' := fun _ => by
  refine Or.inr ⟨hf, ?_⟩
  rcases h trivial with ⟨_, a⟩ | ⟨e, _⟩
  · refine a _ ?_
    rcases t trivial with ⟨e, _⟩ | ⟨_, x⟩
    · omega
    · refine pt_0g (by rw [hs]; exact hb) hn ?_
      rw [hs]
      exact x n L
  · omega
/-- behind a triple -/
theorem pt_H13_t {n g f p : Int} {L : List pc_M} (h : pt_H13 T n g k L) (hg : g = 1) (hs : pt_sk T k = k) (hb : pt_b0 (pt_tk T k)) (hn : n < 12) (t : pt_TR T k k' m f p) (hf : f = 0) : ∀ r, pt_Q5 T k' n (L ++ [m]) r → pt_Q0 T 0 0 [] r := fun r hr => by
  rcases h trivial with ⟨_, a⟩ | ⟨e, _⟩
  · refine a _ ?_
    rcases t trivial with ⟨_, x⟩ | ⟨e, _⟩
    · refine pt_0g (by rw [hs]; exact hb) hn ?_
      rw [hs]
      exact x n L r hr
    · omega
  · omega
theorem pt_H13_n {n n' g g' f p : Int} {L L' : List pc_M} (h : pt_H13 T n g k L) (hg : g = 1) (hs : pt_sk T k = k) (hb : pt_b0 (pt_tk T k)) (hn : n < 12) (t : pt_TR T k k' m f p) (hf : f = 0) (hL : L' = L ++ [m]) (hn' : n' = n + 1) (hg' : g' = 0) : pt_H13 T n' g' k' L' := fun _ => by
  refine Or.inr ⟨hg', fun r hr => ?_⟩
  have e : n' - 1 = n := by omega
  rw [e, hL] at hr
  exact pt_H13_t h hg hs hb hn t hf r hr
theorem pt_H13_s (hl : pt_lim T) {n n' g g' f p kk : Int} {L L' : List pc_M} (h : pt_H13 T n g k L) (hg : g = 1) (hs : pt_sk T k = k) (hb : pt_b0 (pt_tk T k)) (hn : n < 12) (t : pt_TR T k k' m f p) (hf : f = 0) (hL : L' = L ++ [m]) (hn' : n' = n + 1) (hg' : g' = 1) (hk : 0 ≤ k') (hs' : pt_sk T k' = k') (ht : T k' = 59) (hkk : kk = pt_sk T (k' + 1)) : pt_H13 T n' g' kk L' := fun _ => by
  refine Or.inl ⟨hg', fun r hr => ?_⟩
  subst hn' hL
  refine pt_H13_t h hg hs hb hn t hf r (pt_5s (by rw [hs']; exact ht) ?_)
  rw [hs']
  exact pt_0k hl (by omega) hkk hr
theorem pt_H13_e {n g f p : Int} {L : List pc_M} (h : pt_H13 T n g k L) (hg : g = 0) (hs : pt_sk T k = k) (ht : T k = -1) (hf : f = 0) (hp : p = -1) : pt_RR T f p L := fun _ => by
  refine Or.inl ⟨hf, hp, ?_⟩
  rcases h trivial with ⟨e, _⟩ | ⟨_, a⟩
  · omega
  · exact a _ (pt_5e (by rw [hs]; exact ht))
theorem pt_H13_w {n g f p : Int} {L L' : List pc_M} (h : pt_H13 T n g k L) (hg : g = 0) (hs : pt_sk T k = k) (ht : T k ≠ -1) (ht' : T k ≠ 59) (hf : f = 1) (hp : p = k) : pt_RR T f p L' := fun _ => by
  subst hf hp
  refine Or.inr ⟨by decide, ?_⟩
  rcases h trivial with ⟨e, _⟩ | ⟨_, a⟩
  · omega
  · refine a _ ?_
    have x := pt_5x (T := T) (k := p) (n := n - 1) (L := L) (by rw [hs]; exact ht) (by rw [hs]; exact ht')
    rw [hs] at x
    exact x
/-- two readings of one text say the same -/
theorem pt_RR_det {f p f' p' : Int} {L L' : List pc_M} (h : pt_RR T f p L) (h' : pt_RR T f' p' L') : f = f' ∧ p = p' ∧ (f = 0 → L = L') := by
  rcases h trivial with ⟨e1, e2, a⟩ | ⟨e1, a⟩ <;> rcases h' trivial with ⟨g1, g2, b⟩ | ⟨g1, b⟩
  · have z := pt_Res_det a b
    simp only [Prod.mk.injEq] at z
    exact ⟨by omega, by omega, fun _ => z.2.2⟩
  · have z := pt_Res_det a b
    simp only [Prod.mk.injEq] at z
    omega
  · have z := pt_Res_det a b
    simp only [Prod.mk.injEq] at z
    omega
  · have z := pt_Res_det a b
    simp only [Prod.mk.injEq] at z
    exact ⟨z.1, z.2.1, fun c => by omega⟩
/-- generators in the reference's heap, in the class's -/
def pt_Ls (f : Int → Int) (n w : Int) : List pc_M := (List.range n.toNat).map fun i : Nat => pt_m f (w * i)
theorem pt_Ls_0 {f : Int → Int} {n w : Int} (h : n = 0) : pt_Ls f n w = [] := by
  subst h
  rfl
theorem pt_Ls_eq {f g : Int → Int} {n w : Int} (hw : 9 ≤ w) (h : ∀ k : Int, 0 ≤ k → k < w * n → f k = g k) : pt_Ls f n w = pt_Ls g n w := by
  unfold pt_Ls
  refine List.map_congr_left fun i hi => ?_
  have hi' := List.mem_range.mp hi
  have h0 : (i : Int) + 1 ≤ n := by omega
  have h1 : w * ((i : Int) + 1) ≤ w * n := Int.mul_le_mul_of_nonneg_left h0 (by omega)
  rw [Int.mul_add, Int.mul_one] at h1
  have h2 : 0 ≤ w * (i : Int) := Int.mul_nonneg (by omega) (by omega)
  unfold pt_m
  simp only [Prod.mk.injEq]
  refine ⟨?_, ?_, ?_, ?_, ?_, ?_, ?_, ?_, ?_⟩ <;> exact h _ (by omega) (by omega)
theorem pt_Ls_s {f : Int → Int} {n n' w : Int} (hn : 0 ≤ n) (h : n' = n + 1) : pt_Ls f n' w = pt_Ls f n w ++ [pt_m f (w * n)] := by
  subst h
  unfold pt_Ls
  have e : (n + 1).toNat = n.toNat + 1 := by omega
  have e2 : ((n.toNat : Nat) : Int) = n := by omega
  rw [e, List.range_succ, List.map_append]
  show _ ++ [pt_m f (w * (n.toNat : Nat))] = _
  rw [e2]
theorem pt_Ls_p {N N' : Int} (hN : 0 ≤ N) (e : N' = N + 1) (he : pm_er τ 81 0 (12 * N) (σ 81)) : pt_Ls (τ 81) N' 12 = pt_Ls (σ 81) N 12 ++ [pt_m (τ 81) (12 * N)] := by
  rw [pt_Ls_s hN e]
  congr 1
  exact pt_Ls_eq (by omega) (fun k a b => he k a b)
theorem pt_Ls_k {N N' : Int} (e : τ 81 = σ 81) (h : N' = N) : pt_Ls (τ 81) N' 12 = pt_Ls (σ 81) N 12 := by
  rw [e, h]
/-- the same, at the reference's token -/
theorem pt_G13_0 (hl : pt_lim T) {g : Int} {L : List pc_M} (hn : n = 0) (hg : g = 1) (hk : k = pt_sk T 0) (hL : L = []) : pt_H13 T n g k L := pt_H13_0 hl hn hg hk hL
theorem pt_CS_b0 {c : Int} (cs : pt_CS T c τ) (h : τ 77 27 = 2 ∨ τ 77 27 = 43 ∨ τ 77 27 = 45 ∨ (120 ≤ τ 77 27 ∧ τ 77 27 ≤ 122)) : pt_b0 (pt_tk T (τ 77 25)) := by
  obtain ⟨z1, z2, z3, z4, z5, z6, z7⟩ := cs trivial
  have c := pt_c5 T (τ 77 25)
  unfold pt_b0
  omega
theorem pt_CS_nb {c : Int} (cs : pt_CS T c τ) (h : ¬ (τ 77 27 = 2 ∨ τ 77 27 = 43 ∨ τ 77 27 = 45 ∨ (120 ≤ τ 77 27 ∧ τ 77 27 ≤ 122))) : ¬ pt_b0 (pt_tk T (τ 77 25)) := by
  obtain ⟨z1, z2, z3, z4, z5, z6, z7⟩ := cs trivial
  have c := pt_c5 T (τ 77 25)
  unfold pt_b0
  omega
theorem pt_CS_e {c : Int} (cs : pt_CS T c τ) (h : τ 77 27 = 0) : T (τ 77 25) = -1 := by
  obtain ⟨z1, z2, z3, z4, z5, z6, z7⟩ := cs trivial
  have c := pt_c5 T (τ 77 25)
  omega
theorem pt_CS_ne {c : Int} (cs : pt_CS T c τ) (h : ¬ (τ 77 27 = 0)) : T (τ 77 25) ≠ -1 := by
  obtain ⟨z1, z2, z3, z4, z5, z6, z7⟩ := cs trivial
  have c := pt_c5 T (τ 77 25)
  omega
theorem pt_G13_x {g p c : Int} {L L' : List pc_M} (h : pt_H13 T n g (τ 77 25) L) (cs : pt_CS T c τ) (hg : g = 1) (hb : ¬ (τ 77 27 = 2 ∨ τ 77 27 = 43 ∨ τ 77 27 = 45 ∨ (120 ≤ τ 77 27 ∧ τ 77 27 ≤ 122))) (hf : f = 1) (hp : p = τ 77 25) (_ : True ∨ n = n) : pt_RR T f p L' := pt_H13_x h hg (pt_CS_sk cs).1 (pt_CS_nb cs hb) hf hp
theorem pt_G13_m {g p c : Int} {L L' : List pc_M} (h : pt_H13 T n g (τ 77 25) L) (cs : pt_CS T c τ) (hg : g = 1) (hb : τ 77 27 = 2 ∨ τ 77 27 = 43 ∨ τ 77 27 = 45 ∨ (120 ≤ τ 77 27 ∧ τ 77 27 ≤ 122)) (hn : 12 ≤ n) (hf : f = 5) (hp : p = τ 77 25) : pt_RR T f p L' := pt_H13_m h hg (pt_CS_sk cs).1 (pt_CS_b0 cs hb) hn hf hp
theorem pt_G13_e {g p c : Int} {L : List pc_M} (h : pt_H13 T n g (τ 77 25) L) (cs : pt_CS T c τ) (hg : g = 0) (ht : τ 77 27 = 0) (hf : f = 0) (hp : p = -1) : pt_RR T f p L := pt_H13_e h hg (pt_CS_sk cs).1 (pt_CS_e cs ht) hf hp
theorem pt_G13_w {g p c : Int} {L L' : List pc_M} (h : pt_H13 T n g (τ 77 25) L) (cs : pt_CS T c τ) (hg : g = 0) (ht : ¬ (τ 77 27 = 0)) (ht' : ¬ (τ 77 27 = 59)) (hf : f = 1) (hp : p = τ 77 25) : pt_RR T f p L' := pt_H13_w h hg (pt_CS_sk cs).1 (pt_CS_ne cs ht) (pt_CS_no cs 59 (by decide) ht') hf hp
theorem pt_G13_a {g g' : Int} {L : List pc_M} (h : pt_H13 T n g k L) (hg : g' = g) (_ : n = n) : pt_H13 T n g' k L := by
  rw [hg]
  exact h
theorem pt_G13_f {p c : Int} {L L' : List pc_M} (h : pt_H13 T n 1 (τ 77 25) L) (cs : pt_CS T c τ) (hb : τ 77 27 = 2 ∨ τ 77 27 = 43 ∨ τ 77 27 = 45 ∨ (120 ≤ τ 77 27 ∧ τ 77 27 ≤ 122)) (hn : n < 12) (t : pt_TR T (τ 77 25) k' m f p) (hf : 0 < f) : pt_RR T f p L' := pt_H13_f h rfl (pt_CS_sk cs).1 (pt_CS_b0 cs hb) hn t hf
theorem pt_G13_n {n' p c : Int} {L L' : List pc_M} (h : pt_H13 T n 1 (τ 77 25) L) (cs : pt_CS T c τ) (hb : τ 77 27 = 2 ∨ τ 77 27 = 43 ∨ τ 77 27 = 45 ∨ (120 ≤ τ 77 27 ∧ τ 77 27 ≤ 122)) (hn : n < 12) (t : pt_TR T (τ 77 25) k' m f p) (hf : f = 0) (hL : L' = L ++ [m]) (hn' : n' = n + 1) : pt_H13 T n' 0 k' L' := pt_H13_n h rfl (pt_CS_sk cs).1 (pt_CS_b0 cs hb) hn t hf hL hn' rfl
theorem pt_G13_s (hl : pt_lim T) {g' c : Int} {L L' : List pc_M} (h : pt_H13 T n 0 (τ 77 25) L) (cs : pt_CS T c τ) (ht : τ 77 27 = 59) (hg' : g' = 1) (he : k' = pt_sk T (τ 77 26)) (hL : L' = L) : pt_H13 T n g' k' L' := by
  obtain ⟨a, _, e, d⟩ := pt_CS_sg cs _ (by decide) ht
  obtain ⟨_, z, _, _⟩ := pt_CS_sk cs
  rw [e] at he
  subst hL
  intro _
  rcases h trivial with ⟨x, _⟩ | ⟨_, b⟩
  · omega
  · refine Or.inl ⟨hg', fun r hr => b r (pt_5s (by rw [d]; exact a) ?_)⟩
    rw [d]
    have q := pt_0k hl (by omega) he hr
    have w : n - 1 + 1 = n := by omega
    rw [w]
    exact q
end PTM
