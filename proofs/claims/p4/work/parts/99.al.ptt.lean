/-! triples: the class's readTriple -/
section PTX
variable {T : Int → Int} {k k' n r f p : Int} {m m' : pc_M}
def pt_H62 (T : Int → Int) (k0 n k : Int) (m : pc_M) : Prop := True → ((n = 0 ∧ k = k0 ∧ m = pt_0) ∨ (0 < n ∧ pt_A T 1 k0 0 1 0 pt_0 4 k (n - 1) 1 0 m))
theorem pt_H62_0 {k0 : Int} (h1 : n = 0) (h2 : k = k0) (h3 : m = pt_0) : pt_H62 T k0 n k m := fun _ => Or.inl ⟨h1, h2, h3⟩
theorem pt_H62_q {k0 : Int} (h : pt_H62 T k0 n k m) (hn : n ≤ 0) : pt_A T 1 k0 0 1 0 pt_0 1 k n 1 0 m := by
  rcases h trivial with ⟨a, b, c⟩ | ⟨a, _⟩
  · subst a b c
    exact pt_A_rf
  · omega
theorem pt_H62_c {k0 : Int} (h : pt_H62 T k0 n k m) (hn : ¬ (n ≤ 0)) (h3 : n < 3) (c : pt_CO T k k' r f p) (hr : ¬ (r = 0)) : pt_A T 1 k0 0 1 0 pt_0 1 k' n 1 0 m := by
  rcases h trivial with ⟨a, _, _⟩ | ⟨_, a⟩
  · omega
  · have b : r = 1 := by
      rcases c trivial with ⟨e, _⟩ | ⟨e, _⟩ <;> omega
    have q := pt_CO_1 (row := n - 1) (sg := 1) (nm := 0) (m := m) c b (by omega)
    have e : n - 1 + 1 = n := by omega
    rw [e] at q
    exact pt_A_tr a q
theorem pt_H62_x {k0 : Int} (h : pt_H62 T k0 n k m) (hn : ¬ (n ≤ 0)) (h3 : n < 3) (c : pt_CO T k k' r f p) (hr : r = 0) : 0 < f ∧ pt_X T 1 k0 0 1 0 pt_0 f p := by
  rcases h trivial with ⟨a, _, _⟩ | ⟨_, a⟩
  · omega
  · have q := pt_CO_0 (row := n - 1) (sg := 1) (nm := 0) (m := m) c hr (by omega)
    exact ⟨q.1, pt_A_X a q.2⟩
theorem pt_H62_s {k0 kk n' : Int} (a : pt_A T 1 k0 0 1 0 pt_0 1 kk n 1 0 m) (hn : 0 ≤ n) (hn' : n' = n + 1) (s : pt_SC T kk n m k m' r f p) (hr : ¬ (r = 0)) : pt_H62 T k0 n' k m' := fun _ => by
  subst hn'
  rcases s trivial with ⟨_, b⟩ | ⟨e, _⟩
  · refine Or.inr ⟨by omega, ?_⟩
    have e : n + 1 - 1 = n := by omega
    rw [e]
    exact pt_A_tr a b
  · omega
theorem pt_H62_f {k0 kk : Int} (a : pt_A T 1 k0 0 1 0 pt_0 1 kk n 1 0 m) (s : pt_SC T kk n m k m' r f p) (hr : r = 0) : 0 < f ∧ pt_X T 1 k0 0 1 0 pt_0 f p := by
  rcases s trivial with ⟨e, _⟩ | ⟨_, g, x⟩
  · omega
  · exact ⟨g, pt_A_X a x⟩
/-- a triple was read, from ahead of it -/
def pt_TC (T : Int → Int) (k0 n k : Int) (m : pc_M) (r f p : Int) : Prop := True → ((r = 1 ∧ ∀ (L : List pc_M) (z : pt_R), pt_Q5 T k n (L ++ [m]) z → pt_Q0 T k0 n L z) ∨ (r = 0 ∧ 0 < f ∧ ∀ L : List pc_M, pt_Q0 T k0 n L (f, p, [])))
theorem pt_TC_x {k0 : Int} (hr : r = 0) (hf : f = 1) (hp : p = pt_sk T k0) (hb : ¬ pt_b0 (pt_tk T (pt_sk T k0))) : pt_TC T k0 n k m r f p := fun _ => by
  subst hf hp
  exact Or.inr ⟨hr, by decide, fun L => pt_0x hb⟩
theorem pt_TC_m {k0 : Int} (hr : r = 0) (hf : f = 5) (hp : p = pt_sk T k0) (hb : pt_b0 (pt_tk T (pt_sk T k0))) (hn : 12 ≤ n) : pt_TC T k0 n k m r f p := fun _ => by
  subst hf hp
  exact Or.inr ⟨hr, by decide, fun L => pt_0m hb hn⟩
theorem pt_TC_f {k0 : Int} (hr : r = 0) (hb : pt_b0 (pt_tk T (pt_sk T k0))) (hn : n < 12) (h : 0 < f ∧ pt_X T 1 (pt_sk T k0) 0 1 0 pt_0 f p) : pt_TC T k0 n k m r f p := fun _ => Or.inr ⟨hr, h.1, fun L => pt_0g hb hn (h.2 trivial _ n L)⟩
theorem pt_TC_1 {k0 c : Int} (hr : r = 1) (hb : pt_b0 (pt_tk T (pt_sk T k0))) (hn : n < 12) (h : pt_H62 T (pt_sk T k0) c k m) (hc : c = 3) (hd : pc_dt m = 1 ∨ pc_dt m = -1) (hm : m' = m) : pt_TC T k0 n k m' r f p := fun _ => by
  subst hm hc
  refine Or.inl ⟨hr, fun L z hz => pt_0g hb hn ?_⟩
  rcases h trivial with ⟨a, _⟩ | ⟨_, a⟩
  · omega
  · exact a trivial _ n L z (pt_4d (by decide) hd hz)
theorem pt_TC_d {k0 c : Int} (hr : r = 0) (hf : f = 4) (hp : p = pt_sk T k0) (hb : pt_b0 (pt_tk T (pt_sk T k0))) (hn : n < 12) (h : pt_H62 T (pt_sk T k0) c k' m) (hc : c = 3) (hd : ¬ (pc_dt m = 1 ∨ pc_dt m = -1)) : pt_TC T k0 n k m' r f p := fun _ => by
  subst hf hp hc
  refine Or.inr ⟨hr, by decide, fun L => pt_0g hb hn ?_⟩
  rcases h trivial with ⟨a, _⟩ | ⟨_, a⟩
  · omega
  · exact a trivial _ n L _ (pt_4f (by decide) hd)
theorem pt_b0_y {t : Int} (h : t = 48 ∨ t = 43 ∨ t = 45 ∨ (120 ≤ t ∧ t ≤ 122)) : pt_b0 t := h
theorem pt_b0_n {t : Int} (h : ¬ (t = 48 ∨ t = 43 ∨ t = 45 ∨ (120 ≤ t ∧ t ≤ 122))) : ¬ pt_b0 t := h
theorem pt_m_g2 {σ τ : pm_H} {a : Int} {q q' : Nat} (h : pm_er τ q a (a + 9) (fun k => σ q' (k - a))) : pt_m (τ q) a = pt_m (σ q') 0 := by
  unfold pt_m
  simp only [Prod.mk.injEq]
  refine ⟨?_, ?_, ?_, ?_, ?_, ?_, ?_, ?_, ?_⟩
  · exact (h a (by omega) (by omega)).trans (by show σ q' (a - a) = _; congr 1; omega)
  · exact (h (a + 1) (by omega) (by omega)).trans (by show σ q' ((a + 1) - a) = _; congr 1; omega)
  · exact (h (a + 2) (by omega) (by omega)).trans (by show σ q' ((a + 2) - a) = _; congr 1; omega)
  · exact (h (a + 3) (by omega) (by omega)).trans (by show σ q' ((a + 3) - a) = _; congr 1; omega)
  · exact (h (a + 4) (by omega) (by omega)).trans (by show σ q' ((a + 4) - a) = _; congr 1; omega)
  · exact (h (a + 5) (by omega) (by omega)).trans (by show σ q' ((a + 5) - a) = _; congr 1; omega)
  · exact (h (a + 6) (by omega) (by omega)).trans (by show σ q' ((a + 6) - a) = _; congr 1; omega)
  · exact (h (a + 7) (by omega) (by omega)).trans (by show σ q' ((a + 7) - a) = _; congr 1; omega)
  · exact (h (a + 8) (by omega) (by omega)).trans (by show σ q' ((a + 8) - a) = _; congr 1; omega)
end PTX
