/-! texts in the heap -/
section PTL
theorem pm_andm (v : Int) : pm_and v 255 = v % 256 := by
  unfold pm_and
  have e : (Int32.ofInt v &&& Int32.ofInt 255).toInt = ((BitVec.ofInt 32 v) &&& (255#32)).toInt := rfl
  rw [e]
  have h1 : ((BitVec.ofInt 32 v) &&& (255#32)).toNat = (v % 4294967296).toNat % 256 := by
    rw [BitVec.toNat_and]
    have h2 : (BitVec.ofInt 32 v).toNat = (v % 4294967296).toNat := by
      rw [BitVec.toNat_ofInt]
      rfl
    have h3 : (255#32).toNat = 2 ^ 8 - 1 := by decide
    rw [h2, h3, Nat.and_two_pow_sub_one_eq_mod]
  rw [BitVec.toInt_eq_toNat_cond, h1]
  have h4 : (v % 4294967296).toNat % 256 < 256 := Nat.mod_lt _ (by decide)
  rw [if_pos (by omega)]
  omega
/-- the reference's text -/
def pt_T (σ : pm_H) (k : Int) : Int := if 0 ≤ k ∧ k < σ 77 3 then σ 79 k % 256 else -1
/-- the class's text of length n -/
def pt_U (σ : pm_H) (n k : Int) : Int := if 0 ≤ k ∧ k < n then σ 30 k else -1
theorem pt_T_lim {σ : pm_H} (h : σ 77 3 ≤ 400) : pt_lim (pt_T σ) := fun k hk => by
  unfold pt_T
  rw [if_neg (by omega)]
theorem pt_U_lim {σ : pm_H} {n : Int} (h : n ≤ 400) : pt_lim (pt_U σ n) := fun k hk => by
  unfold pt_U
  rw [if_neg (by omega)]
theorem pt_T_v (σ : pm_H) (k : Int) : (0 ≤ k ∧ k < σ 77 3 → pt_T σ k = σ 79 k % 256) ∧ (¬ (0 ≤ k ∧ k < σ 77 3) → pt_T σ k = -1) := by
  unfold pt_T
  constructor <;> intro h
  · rw [if_pos h]
  · rw [if_neg h]
theorem pt_U_v (σ : pm_H) (n k : Int) : (0 ≤ k ∧ k < n → pt_U σ n k = σ 30 k) ∧ (¬ (0 ≤ k ∧ k < n) → pt_U σ n k = -1) := by
  unfold pt_U
  constructor <;> intro h
  · rw [if_pos h]
  · rw [if_neg h]
theorem pt_T_eq {σ τ : pm_H} (h1 : τ 79 = σ 79) (h2 : τ 77 3 = σ 77 3) : pt_T τ = pt_T σ := by
  funext k
  unfold pt_T
  rw [h1, h2]
theorem pt_U_eq {σ τ : pm_H} {n : Int} (h1 : τ 30 = σ 30) : pt_U τ n = pt_U σ n := by
  funext k
  unfold pt_U
  rw [h1]
theorem pt_T_up {σ : pm_H} {q : Nat} {i v : Int} (h : q ≠ 79 ∧ (q ≠ 77 ∨ i ≠ 3)) : pt_T (pm_up σ q i v) = pt_T σ := by
  refine pt_T_eq (pu_ne (by omega)) ?_
  unfold pm_up
  rw [if_neg (by omega)]
/-- bytes -/
def pt_by (σ : pm_H) (n : Int) : Prop := True → ∀ k : Int, 0 ≤ k → k < n → 0 ≤ σ 30 k ∧ σ 30 k ≤ 255
theorem pt_by_v {σ : pm_H} {n : Int} (h : pt_by σ n) (k : Int) : 0 ≤ k ∧ k < n → 0 ≤ σ 30 k ∧ σ 30 k ≤ 255 := fun z => h trivial k z.1 z.2
theorem pt_by_eq {σ τ : pm_H} {n : Int} (h : pt_by σ n) (e : τ 30 = σ 30) : pt_by τ n := fun t k h1 h2 => by
  rw [e]
  exact h t k h1 h2
variable {T : Int → Int}
theorem pt_tk_v (T : Int → Int) (s : Int) : (T s = -1 → pt_tk T s = -1) ∧ (48 ≤ T s ∧ T s ≤ 57 ∧ pt_dg T s - s ≤ 2 → pt_tk T s = 48) ∧ (48 ≤ T s ∧ T s ≤ 57 ∧ 2 < pt_dg T s - s → pt_tk T s = -2) ∧ (T s = 43 ∨ T s = 45 ∨ T s = 44 ∨ T s = 59 ∨ T s = 47 ∨ (120 ≤ T s ∧ T s ≤ 122) → pt_tk T s = T s) ∧ (¬ (T s = -1) ∧ ¬ (48 ≤ T s ∧ T s ≤ 57) ∧ ¬ (T s = 43 ∨ T s = 45 ∨ T s = 44 ∨ T s = 59 ∨ T s = 47 ∨ (120 ≤ T s ∧ T s ≤ 122)) → pt_tk T s = -2) := by
  unfold pt_tk
  refine ⟨fun h => ?_, fun h => ?_, fun h => ?_, fun h => ?_, fun h => ?_⟩
  · rw [if_pos h]
  · rw [if_neg (by omega), if_pos (by omega), if_pos (by omega)]
  · rw [if_neg (by omega), if_pos (by omega), if_neg (by omega)]
  · rw [if_neg (by omega), if_neg (by omega), if_pos h]
  · rw [if_neg h.1, if_neg h.2.1, if_neg h.2.2]
/-- the reference's words for it -/
def pt_tr (t : Int) : Int := if t = -1 then 0 else if t = -2 then 1 else if t = 48 then 2 else t
theorem pt_tr_v (t : Int) : (t = -1 → pt_tr t = 0) ∧ (t = -2 → pt_tr t = 1) ∧ (t = 48 → pt_tr t = 2) ∧ (¬ (t = -1) ∧ ¬ (t = -2) ∧ ¬ (t = 48) → pt_tr t = t) := by
  unfold pt_tr
  refine ⟨fun h => ?_, fun h => ?_, fun h => ?_, fun h => ?_⟩
  · rw [if_pos h]
  · rw [if_neg (by omega), if_pos h]
  · rw [if_neg (by omega), if_neg (by omega), if_pos h]
  · rw [if_neg h.1, if_neg h.2.1, if_neg h.2.2]
def pt_te (T : Int → Int) (s : Int) : Int := if T s = -1 then s else if 48 ≤ T s ∧ T s ≤ 57 then pt_dg T s else s + 1
theorem pt_te_v (T : Int → Int) (s : Int) : (T s = -1 → pt_te T s = s) ∧ (48 ≤ T s ∧ T s ≤ 57 → pt_te T s = pt_dg T s) ∧ (¬ (T s = -1) ∧ ¬ (48 ≤ T s ∧ T s ≤ 57) → pt_te T s = s + 1) := by
  unfold pt_te
  refine ⟨fun h => ?_, fun h => ?_, fun h => ?_⟩
  · rw [if_pos h]
  · rw [if_neg (by omega), if_pos h]
  · rw [if_neg h.1, if_neg h.2]
theorem pt_vl_v (T : Int → Int) (s : Int) : (pt_dg T s = s + 1 → pt_vl T s = T s - 48) ∧ (¬ (pt_dg T s = s + 1) → pt_vl T s = 10 * (T s - 48) + (T (s + 1) - 48)) := by
  unfold pt_vl
  constructor <;> intro h
  · rw [if_pos h]
  · rw [if_neg h]
theorem pt_tk_rg (T : Int → Int) (s : Int) (h : 0 ≤ T s ∧ T s ≤ 255 ∨ T s = -1) : -2 ≤ pt_tk T s ∧ pt_tk T s ≤ 122 := by
  have v := pt_tk_v T s
  by_cases c : 48 ≤ T s ∧ T s ≤ 57 ∧ pt_dg T s - s ≤ 2 <;> by_cases d : 48 ≤ T s ∧ T s ≤ 57 <;> by_cases g : T s = 43 ∨ T s = 45 ∨ T s = 44 ∨ T s = 59 ∨ T s = 47 ∨ (120 ≤ T s ∧ T s ≤ 122) <;> omega
/-- what stands there: one of five -/
theorem pt_c5 (T : Int → Int) (s : Int) : (T s = -1 ∧ pt_tk T s = -1 ∧ pt_tr (pt_tk T s) = 0 ∧ pt_te T s = s) ∨ (48 ≤ T s ∧ T s ≤ 57 ∧ pt_dg T s - s ≤ 2 ∧ pt_tk T s = 48 ∧ pt_tr (pt_tk T s) = 2 ∧ pt_te T s = pt_dg T s) ∨ (48 ≤ T s ∧ T s ≤ 57 ∧ 2 < pt_dg T s - s ∧ pt_tk T s = -2 ∧ pt_tr (pt_tk T s) = 1 ∧ pt_te T s = pt_dg T s) ∨ ((T s = 43 ∨ T s = 45 ∨ T s = 44 ∨ T s = 59 ∨ T s = 47 ∨ (120 ≤ T s ∧ T s ≤ 122)) ∧ pt_tk T s = T s ∧ pt_tr (pt_tk T s) = T s ∧ pt_te T s = s + 1) ∨ (¬ (T s = -1) ∧ ¬ (48 ≤ T s ∧ T s ≤ 57) ∧ ¬ (T s = 43 ∨ T s = 45 ∨ T s = 44 ∨ T s = 59 ∨ T s = 47 ∨ (120 ≤ T s ∧ T s ≤ 122)) ∧ pt_tk T s = -2 ∧ pt_tr (pt_tk T s) = 1 ∧ pt_te T s = s + 1) := by
  by_cases a : T s = -1
  · have k : pt_tk T s = -1 := by
      unfold pt_tk
      rw [if_pos a]
    refine Or.inl ⟨a, k, by rw [k]; rfl, ?_⟩
    unfold pt_te
    rw [if_pos a]
  · by_cases b : 48 ≤ T s ∧ T s ≤ 57
    · have e : pt_te T s = pt_dg T s := by
        unfold pt_te
        rw [if_neg a, if_pos b]
      by_cases c : pt_dg T s - s ≤ 2
      · have k : pt_tk T s = 48 := by
          unfold pt_tk
          rw [if_neg a, if_pos b, if_pos c]
        exact Or.inr (Or.inl ⟨b.1, b.2, c, k, by rw [k]; rfl, e⟩)
      · have k : pt_tk T s = -2 := by
          unfold pt_tk
          rw [if_neg a, if_pos b, if_neg c]
        exact Or.inr (Or.inr (Or.inl ⟨b.1, b.2, by omega, k, by rw [k]; rfl, e⟩))
    · have e : pt_te T s = s + 1 := by
        unfold pt_te
        rw [if_neg a, if_neg b]
      by_cases c : T s = 43 ∨ T s = 45 ∨ T s = 44 ∨ T s = 59 ∨ T s = 47 ∨ (120 ≤ T s ∧ T s ≤ 122)
      · have k : pt_tk T s = T s := by
          unfold pt_tk
          rw [if_neg a, if_neg b, if_pos c]
        refine Or.inr (Or.inr (Or.inr (Or.inl ⟨c, k, ?_, e⟩)))
        rw [k]
        unfold pt_tr
        rw [if_neg (by omega), if_neg (by omega), if_neg (by omega)]
      · have k : pt_tk T s = -2 := by
          unfold pt_tk
          rw [if_neg a, if_neg b, if_neg c]
        exact Or.inr (Or.inr (Or.inr (Or.inr ⟨a, b, c, k, by rw [k]; rfl, e⟩)))
theorem pt_T_c (σ : pm_H) (k : Int) : (0 ≤ k ∧ k < σ 77 3 ∧ pt_T σ k = σ 79 k % 256) ∨ ((k < 0 ∨ σ 77 3 ≤ k) ∧ pt_T σ k = -1) := by
  unfold pt_T
  by_cases h : 0 ≤ k ∧ k < σ 77 3
  · rw [if_pos h]
    exact Or.inl ⟨h.1, h.2, rfl⟩
  · rw [if_neg h]
    exact Or.inr ⟨by omega, rfl⟩
theorem pt_U_c (σ : pm_H) (n k : Int) : (0 ≤ k ∧ k < n ∧ pt_U σ n k = σ 30 k) ∨ ((k < 0 ∨ n ≤ k) ∧ pt_U σ n k = -1) := by
  unfold pt_U
  by_cases h : 0 ≤ k ∧ k < n
  · rw [if_pos h]
    exact Or.inl ⟨h.1, h.2, rfl⟩
  · rw [if_neg h]
    exact Or.inr ⟨by omega, rfl⟩
theorem pt_get_m {f : Int → Int} {i : Int} (h : 0 ≤ i ∧ i < 9) : pt_get (pt_m f 0) i = f i := by
  have c : i = 0 ∨ i = 1 ∨ i = 2 ∨ i = 3 ∨ i = 4 ∨ i = 5 ∨ i = 6 ∨ i = 7 ∨ i = 8 := by omega
  rcases c with c | c | c | c | c | c | c | c | c <;> subst c <;> rfl
theorem pt_m_up {σ : pm_H} {q : Nat} {i v : Int} (h : 0 ≤ i ∧ i < 9) : pt_m (pm_up σ q i v q) 0 = pt_set (pt_m (σ q) 0) i v := by
  have c : i = 0 ∨ i = 1 ∨ i = 2 ∨ i = 3 ∨ i = 4 ∨ i = 5 ∨ i = 6 ∨ i = 7 ∨ i = 8 := by omega
  unfold pt_m pt_set
  rcases c with c | c | c | c | c | c | c | c | c <;> subst c <;> simp [pm_up]
theorem pt_m_uo {σ : pm_H} {q : Nat} {i v : Int} (h : i < 0 ∨ 9 ≤ i) : pt_m (pm_up σ q i v q) 0 = pt_m (σ q) 0 := by
  unfold pt_m
  simp only [Prod.mk.injEq]
  refine ⟨?_, ?_, ?_, ?_, ?_, ?_, ?_, ?_, ?_⟩ <;> exact pu_nei (by omega)
theorem pt_zf_get {f : Int → Int} {row c : Int} (hr : 0 ≤ row ∧ row < 3) (hc : 0 ≤ c ∧ c < 3) : pt_get (pt_zf (row + 1) (pt_m f 0)) (3 * row + c) = f (3 * row + c) := by
  have c1 : row = 0 ∨ row = 1 ∨ row = 2 := by omega
  have c2 : c = 0 ∨ c = 1 ∨ c = 2 := by omega
  rcases c1 with c1 | c1 | c1 <;> rcases c2 with c2 | c2 | c2 <;> subst c1 c2 <;> rfl
theorem pt_zf_up {σ : pm_H} {q : Nat} {row c v : Int} (hr : 0 ≤ row ∧ row < 3) (hc : 0 ≤ c ∧ c < 3) : pt_zf (row + 1) (pt_m (pm_up σ q (3 * row + c) v q) 0) = pt_set (pt_zf (row + 1) (pt_m (σ q) 0)) (3 * row + c) v := by
  have c1 : row = 0 ∨ row = 1 ∨ row = 2 := by omega
  have c2 : c = 0 ∨ c = 1 ∨ c = 2 := by omega
  rcases c1 with c1 | c1 | c1 <;> rcases c2 with c2 | c2 | c2 <;> subst c1 c2 <;> simp [pm_up, pt_zf, pt_m, pt_set]
-- the rules, with the places told by equations
variable {k row sg nm s i : Int} {m : pc_M} {k' sg' nm' : Int} {σ : pm_H} {q : Nat}
theorem pt_1p_ (hs : s = pt_sk T k) (h : T s = 43) (hk : k' = s + 1) (hg : sg' = 1) (hn : nm' = 0) : pt_A T 1 k row sg nm m 2 k' row sg' nm' m := by
  subst hs hk hg hn
  exact pt_1p h
theorem pt_1m_ (hs : s = pt_sk T k) (h : T s = 45) (hk : k' = s + 1) (hg : sg' = -1) (hn : nm' = 0) : pt_A T 1 k row sg nm m 2 k' row sg' nm' m := by
  subst hs hk hg hn
  exact pt_1m h
theorem pt_1n_ (hs : k' = pt_sk T k) (h : T k' ≠ 43) (h' : T k' ≠ 45) (hg : sg' = 1) (hn : nm' = 0) : pt_A T 1 k row sg nm m 2 k' row sg' nm' m := by
  subst hs hg hn
  exact pt_1n h h'
theorem pt_2t_ {f : Int} (hs : s = pt_sk T k) (hf : f = 2) (h : pt_tk T s = 48) (h' : nm ≠ 0) : pt_X T 2 k row sg nm m f s := by
  subst hs hf
  exact pt_2t h h'
theorem pt_2n_ (hs : s = pt_sk T k) (he : k' = pt_dg T s) (hn : nm' = 1) (h : pt_tk T s = 48) (h' : nm = 0) : pt_A T 2 k row sg nm m 6 k' row sg nm' m := by
  subst hs he hn
  exact pt_2n h h'
theorem pt_6s_ (hs : s = pt_sk T k) (h : T s = 47) (hk : k' = s + 1) (hn : nm' = 1) : pt_A T 6 k row sg nm m 7 k' row sg nm' m := by
  subst hs hk hn
  exact pt_6s h
theorem pt_6n_ (hs : k' = pt_sk T k) (h : T k' ≠ 47) (hn : nm' = 1) : pt_A T 6 k row sg nm m 3 k' row 1 nm' m := by
  subst hs hn
  exact pt_6n h
theorem pt_7x_ {f : Int} (hs : s = pt_sk T k) (hf : f = 1) (h : pt_tk T s ≠ 48) : pt_X T 7 k row sg nm m f s := by
  subst hs hf
  exact pt_7x h
theorem pt_7p_ {f : Int} (hs : s = pt_sk T k) (hf : f = 3) (h : pt_tk T s = 48) (h4 : pt_vl T s < 1 ∨ 24 % pt_vl T s ≠ 0) : pt_X T 7 k row sg nm m f s := by
  subst hs hf
  exact pt_7p h h4
theorem pt_7q_ (hs : s = pt_sk T k) (hk : k' = pt_dg T s) (hn : nm' = 1) (h : pt_tk T s = 48) (h4 : 1 ≤ pt_vl T s ∧ 24 % pt_vl T s = 0) : pt_A T 7 k row sg nm m 3 k' row 1 nm' m := by
  subst hs hk hn
  exact pt_7q h h4
theorem pt_2x_ {f : Int} (hs : s = pt_sk T k) (hf : f = 1) (h : pt_tk T s ≠ 48) (h' : ¬ (120 ≤ pt_tk T s ∧ pt_tk T s ≤ 122)) : pt_X T 2 k row sg nm m f s := by
  subst hs hf
  exact pt_2x h h'
/-- a letter, in the class's matrix -/
theorem pt_2lz (hs : s = pt_sk T k) (hr : 0 ≤ row ∧ row < 3) (h : 120 ≤ pt_tk T s ∧ pt_tk T s ≤ 122) (hi : i = row * 3 + pt_tk T s - 120) (h0 : σ q i = 0) (hk : k' = s + 1) : pt_A T 2 k row sg nm (pt_zf (row + 1) (pt_m (σ q) 0)) 3 k' row 1 nm (pt_zf (row + 1) (pt_m (pm_up σ q i sg q) 0)) := by
  have ei : i = 3 * row + (pt_tk T s - 120) := by omega
  subst hs hk
  rw [ei, pt_zf_up hr (by omega)]
  have e2 : 3 * row + (pt_tk T (pt_sk T k) - 120) = 3 * row + pt_tk T (pt_sk T k) - 120 := by omega
  rw [e2]
  refine pt_2l h ?_
  rw [← e2, pt_zf_get hr (by omega), ← ei]
  exact h0
theorem pt_2wz {f : Int} (hs : s = pt_sk T k) (hf : f = 2) (hr : 0 ≤ row ∧ row < 3) (h : 120 ≤ pt_tk T s ∧ pt_tk T s ≤ 122) (hi : i = row * 3 + pt_tk T s - 120) (h0 : σ q i ≠ 0) : pt_X T 2 k row sg nm (pt_zf (row + 1) (pt_m (σ q) 0)) f s := by
  have ei : i = 3 * row + (pt_tk T s - 120) := by omega
  subst hs hf
  have e2 : 3 * row + (pt_tk T (pt_sk T k) - 120) = 3 * row + pt_tk T (pt_sk T k) - 120 := by omega
  refine pt_2w h ?_
  rw [← e2, pt_zf_get hr (by omega), ← ei]
  exact h0
/-- a letter, in the reference's -/
theorem pt_2lr (hs : s = pt_sk T k) (hr : 0 ≤ row ∧ row < 3) (h : 120 ≤ pt_tk T s ∧ pt_tk T s ≤ 122) (hi : i = 3 * row + (pt_tk T s - 120)) (h0 : σ q i = 0) (hk : k' = s + 1) : pt_A T 2 k row sg nm (pt_m (σ q) 0) 3 k' row 1 nm (pt_m (pm_up σ q i sg q) 0) := by
  subst hs hk
  rw [pt_m_up (by omega)]
  have e2 : i = 3 * row + pt_tk T (pt_sk T k) - 120 := by omega
  rw [e2]
  refine pt_2l h ?_
  rw [← e2, pt_get_m (by omega)]
  exact h0
theorem pt_2wr {f : Int} (hs : s = pt_sk T k) (hf : f = 2) (hr : 0 ≤ row ∧ row < 3) (h : 120 ≤ pt_tk T s ∧ pt_tk T s ≤ 122) (hi : i = 3 * row + (pt_tk T s - 120)) (h0 : σ q i ≠ 0) : pt_X T 2 k row sg nm (pt_m (σ q) 0) f s := by
  subst hs hf
  have e2 : i = 3 * row + pt_tk T (pt_sk T k) - 120 := by omega
  refine pt_2w h ?_
  rw [← e2, pt_get_m (by omega)]
  exact h0
theorem pt_3p_ (hs : s = pt_sk T k) (h : T s = 43) (hk : k' = s + 1) (hg : sg' = 1) : pt_A T 3 k row sg nm m 2 k' row sg' nm m := by
  subst hs hk hg
  exact pt_3p h
theorem pt_3m_ (hs : s = pt_sk T k) (h : T s = 45) (hk : k' = s + 1) (hg : sg' = -1) : pt_A T 3 k row sg nm m 2 k' row sg' nm m := by
  subst hs hk hg
  exact pt_3m h
theorem pt_3n_ (hs : k' = pt_sk T k) (h : T k' ≠ 43) (h' : T k' ≠ 45) : pt_A T 3 k row sg nm m 4 k' row 1 0 m := by
  subst hs
  exact pt_3n h h'
theorem pt_4c_ {row' : Int} (hr : row < 2) (hs : s = pt_sk T k) (h : T s = 44) (hk : k' = s + 1) (hw : row' = row + 1) : pt_A T 4 k row sg nm m 1 k' row' 1 0 m := by
  subst hs hk hw
  exact pt_4c hr h
theorem pt_4x_ {f : Int} (hr : row < 2) (hs : s = pt_sk T k) (hf : f = 1) (h : T s ≠ 44) : pt_X T 4 k row sg nm m f s := by
  subst hs hf
  exact pt_4x hr h
end PTL
