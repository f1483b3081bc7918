/-! triples: the class's readTriples -/
section PTV
variable {T : Int → Int} {k k' n r f p : Int} {m : pc_M} {L L' : List pc_M}
def pt_K22 (T : Int → Int) (n g k f p : Int) (L : List pc_M) : Prop := True → ((g = 1 ∧ f = 0 ∧ p = -1 ∧ ∀ z, pt_Q0 T k n L z → pt_Q0 T 0 0 [] z) ∨ (g = 0 ∧ pt_RR T f p L))
def pt_K40 (T : Int → Int) (n k : Int) (L : List pc_M) : Prop := True → ∀ z, pt_Q5 T k n L z → pt_Q0 T 0 0 [] z
theorem pt_K22_0 {g : Int} (hn : n = 0) (hg : g = 1) (hk : k = 0) (hf : f = 0) (hp : p = -1) (hL : L = []) : pt_K22 T n g k f p L := fun _ => by
  subst hn hk hL
  exact Or.inl ⟨hg, hf, hp, fun z h => h⟩
theorem pt_K22_f {g g' n' f' p' kk : Int} (h : pt_K22 T n g k f p L) (hg : ¬ (g = 0)) (t : pt_TC T k n k' m r f' p') (hr : r = 0) (hg' : g' = 0) : pt_K22 T n' g' kk f' p' L' := fun _ => by
  rcases h trivial with ⟨_, _, _, a⟩ | ⟨e, _⟩
  · rcases t trivial with ⟨e, _⟩ | ⟨_, b, c⟩
    · omega
    · exact Or.inr ⟨hg', fun _ => Or.inr ⟨b, a _ (c L)⟩⟩
  · omega
theorem pt_K22_t {g f' p' : Int} (h : pt_K22 T n g k f p L) (hg : ¬ (g = 0)) (t : pt_TC T k n k' m r f' p') (hr : ¬ (r = 0)) (hL : L' = L ++ [m]) : pt_K40 T n k' L' := fun _ z hz => by
  subst hL
  rcases h trivial with ⟨_, _, _, a⟩ | ⟨e, _⟩
  · rcases t trivial with ⟨_, b⟩ | ⟨e, _⟩
    · exact a z (b L z hz)
    · omega
  · omega
theorem pt_K40_1 {n' g' f' p' : Int} (h : pt_K40 T n k L) (t : pt_GO T k k' r f p) (hr : ¬ (r = 0)) (hn : n' = n + 1) (hg : g' = 1) (hf : f' = 0) (hp : p' = -1) (hL : L' = L) : pt_K22 T n' g' k' f' p' L' := fun _ => by
  subst hn hL
  refine Or.inl ⟨hg, hf, hp, fun z hz => h trivial z ?_⟩
  rcases t trivial with ⟨_, a, b⟩ | ⟨e, _⟩ | ⟨e, _⟩
  · subst b
    exact pt_5s a hz
  · omega
  · omega
theorem pt_K40_0 {n' g' kk : Int} (h : pt_K40 T n k L) (t : pt_GO T k k' r f p) (hr : r = 0) (hg : g' = 0) (hL : 0 < f ∨ L' = L) : pt_K22 T n' g' kk f p L' := fun _ => by
  refine Or.inr ⟨hg, ?_⟩
  rcases t trivial with ⟨e, _⟩ | ⟨_, a, b, c⟩ | ⟨_, a, b, c, d⟩
  · omega
  · subst b c
    rcases hL with e | e
    · omega
    · subst e
      exact fun _ => Or.inl ⟨rfl, rfl, h trivial _ (pt_5e a)⟩
  · subst c d
    exact fun _ => Or.inr ⟨by decide, h trivial _ (pt_5x a b)⟩
theorem pt_K22_e {g : Int} (h : pt_K22 T n g k f p L) (hg : g = 0) : pt_RR T f p L := by
  rcases h trivial with ⟨e, _⟩ | ⟨_, a⟩
  · omega
  · exact a
theorem pt_Lc_p {σ τ : pm_H} {N N' : Int} (hN : 0 ≤ N) (e : N' = N + 1) (he : pm_er τ 32 0 (9 * N) (σ 32)) : pt_Ls (τ 32) N' 9 = pt_Ls (σ 32) N 9 ++ [pt_m (τ 32) (9 * N)] := by
  rw [pt_Ls_s hN e, pt_Ls_eq (g := σ 32) (by decide) (fun k a b => he k a b)]
theorem pt_Lc_k {σ τ : pm_H} {N N' : Int} (e : τ 32 = σ 32) (h : N' = N) : pt_Ls (τ 32) N' 9 = pt_Ls (σ 32) N 9 := by
  rw [e, h]
theorem pt_Lc_z {σ τ : pm_H} {N N' f : Int} (e : τ 32 = σ 32) (h : 0 < f ∨ N' = N) : 0 < f ∨ pt_Ls (τ 32) N' 9 = pt_Ls (σ 32) N 9 := by
  rcases h with h | h
  · exact Or.inl h
  · exact Or.inr (pt_Lc_k e h)
end PTV
/-! texts of symbols: what a text says, as functions of its bytes -/
section SY
variable {T : Int → Int}
theorem sy_n1 : ¬ ((1 : Int) = 0) := by decide
/-- the moves behind a rotation: the fault (0: none) and the place -/
def sy_mvf (T : Int → Int) (n its : Int) : Nat → Int → Int → Int × Int
  | 0, _, k => (0, k)
  | f + 1, hd, k =>
    if T k = -1 ∨ T k = 32 then (0, k)
    else if 49 ≤ T k ∧ T k ≤ 53 ∧ hd = 0 then (if n ≤ T k - 48 ∨ 2 < its then (7, k) else sy_mvf T n its f 1 (k + 1))
    else if (97 ≤ T k ∧ T k ≤ 100) ∨ T k = 110 ∨ (117 ≤ T k ∧ T k ≤ 119) then sy_mvf T n its f hd (k + 1)
    else (1, k)
theorem sy_mvf_st (h : pt_lim T) (n its : Int) : ∀ (f : Nat) (hd k : Int), 400 - k ≤ f → sy_mvf T n its (f + 1) hd k = sy_mvf T n its f hd k
  | 0, hd, k, hk => by
    have e := h k (by omega)
    show (if T k = -1 ∨ T k = 32 then (0, k) else _) = (0, k)
    rw [if_pos (Or.inl e)]
  | f + 1, hd, k, hk => by
    have a := sy_mvf_st h n its f 1 (k + 1) (by omega)
    have b := sy_mvf_st h n its f hd (k + 1) (by omega)
    show (if T k = -1 ∨ T k = 32 then (0, k) else if 49 ≤ T k ∧ T k ≤ 53 ∧ hd = 0 then (if n ≤ T k - 48 ∨ 2 < its then (7, k) else sy_mvf T n its (f + 1) 1 (k + 1)) else if (97 ≤ T k ∧ T k ≤ 100) ∨ T k = 110 ∨ (117 ≤ T k ∧ T k ≤ 119) then sy_mvf T n its (f + 1) hd (k + 1) else (1, k)) = (if T k = -1 ∨ T k = 32 then (0, k) else if 49 ≤ T k ∧ T k ≤ 53 ∧ hd = 0 then (if n ≤ T k - 48 ∨ 2 < its then (7, k) else sy_mvf T n its f 1 (k + 1)) else if (97 ≤ T k ∧ T k ≤ 100) ∨ T k = 110 ∨ (117 ≤ T k ∧ T k ≤ 119) then sy_mvf T n its f hd (k + 1) else (1, k))
    rw [a, b]
def sy_mv (T : Int → Int) (n its hd k : Int) : Int × Int := sy_mvf T n its 1000 hd k
theorem sy_mv_u (h : pt_lim T) {n its hd k : Int} (hk : 0 ≤ k) : sy_mv T n its hd k = (if T k = -1 ∨ T k = 32 then (0, k) else if 49 ≤ T k ∧ T k ≤ 53 ∧ hd = 0 then (if n ≤ T k - 48 ∨ 2 < its then (7, k) else sy_mv T n its 1 (k + 1)) else if (97 ≤ T k ∧ T k ≤ 100) ∨ T k = 110 ∨ (117 ≤ T k ∧ T k ≤ 119) then sy_mv T n its hd (k + 1) else (1, k)) := by
  have a := sy_mvf_st h n its 999 1 (k + 1) (by omega)
  have b := sy_mvf_st h n its 999 hd (k + 1) (by omega)
  unfold sy_mv
  rw [a, b]
  rfl
/-- on the way through the moves -/
def sy_MI (T : Int → Int) (n its k0 hd k : Int) : Prop := True → sy_mv T n its 0 k0 = sy_mv T n its hd k
/-- through the moves: the place behind them, or the fault -/
def sy_MV (T : Int → Int) (n its k0 k f p : Int) : Prop := True → ((f = 0 ∧ sy_mv T n its 0 k0 = (0, k)) ∨ (0 < f ∧ sy_mv T n its 0 k0 = (f, p)))
theorem sy_MI_0 {n its k0 hd k : Int} (hh : hd = 0) (hk : k = k0) : sy_MI T n its k0 hd k := fun _ => by rw [hh, hk]
theorem sy_MI_d (hl : pt_lim T) {n its k0 hd k hd' k' : Int} (h : sy_MI T n its k0 hd k) (hk : 0 ≤ k) (hc : 49 ≤ T k ∧ T k ≤ 53 ∧ hd = 0) (hs : ¬ (n ≤ T k - 48) ∧ ¬ (2 < its)) (h1 : hd' = 1) (h2 : k' = k + 1) : sy_MI T n its k0 hd' k' := fun t => by
  rw [h t, sy_mv_u hl hk, if_neg (by omega), if_pos hc, if_neg (by omega), h1, h2]
theorem sy_MI_l (hl : pt_lim T) {n its k0 hd k hd' k' : Int} (h : sy_MI T n its k0 hd k) (hk : 0 ≤ k) (hc : (97 ≤ T k ∧ T k ≤ 100) ∨ T k = 110 ∨ (117 ≤ T k ∧ T k ≤ 119)) (h1 : hd' = hd) (h2 : k' = k + 1) : sy_MI T n its k0 hd' k' := fun t => by
  rw [h t, sy_mv_u hl hk, if_neg (by omega), if_neg (by omega), if_pos hc, h1, h2]
theorem sy_MV_e (hl : pt_lim T) {n its k0 hd k f p k' : Int} (h : sy_MI T n its k0 hd k) (hk : 0 ≤ k) (hc : T k = -1 ∨ T k = 32) (hf : f = 0) (hk' : k' = k) : sy_MV T n its k0 k' f p := fun t => by
  refine Or.inl ⟨hf, ?_⟩
  rw [h t, sy_mv_u hl hk, if_pos hc, hk']
theorem sy_MV_s (hl : pt_lim T) {n its k0 hd k f p k' : Int} (h : sy_MI T n its k0 hd k) (hk : 0 ≤ k) (hc : 49 ≤ T k ∧ T k ≤ 53 ∧ hd = 0) (hs : n ≤ T k - 48 ∨ 2 < its) (hf : f = 7) (hp : p = k) : sy_MV T n its k0 k' f p := fun t => by
  refine Or.inr ⟨by omega, ?_⟩
  rw [h t, sy_mv_u hl hk, if_neg (by omega), if_pos hc, if_pos hs, hf, hp]
theorem sy_MV_x (hl : pt_lim T) {n its k0 hd k f p k' : Int} (h : sy_MI T n its k0 hd k) (hk : 0 ≤ k) (hc : ¬ (T k = -1 ∨ T k = 32)) (hd1 : ¬ (49 ≤ T k ∧ T k ≤ 53 ∧ hd = 0)) (hx : ¬ ((97 ≤ T k ∧ T k ≤ 100) ∨ T k = 110 ∨ (117 ≤ T k ∧ T k ≤ 119))) (hf : f = 1) (hp : p = k) : sy_MV T n its k0 k' f p := fun t => by
  refine Or.inr ⟨by omega, ?_⟩
  rw [h t, sy_mv_u hl hk, if_neg hc, if_neg hd1, if_neg hx, hf, hp]
/-- a number of a shift -/
def sy_nb (T : Int → Int) (k : Int) : Int × Int :=
  if 48 ≤ T k ∧ T k ≤ 57 then
    (if 48 ≤ T (k + 1) ∧ T (k + 1) ≤ 57 then (if 10 * (T k - 48) + (T (k + 1) - 48) ≤ 11 then (0, k + 2) else (1, k + 1)) else (0, k + 1))
  else (1, k)
def sy_k1 (T : Int → Int) (k : Int) : Int := if T k = 45 then k + 1 else k
theorem sy_k1_y {k k' : Int} (h : T k = 45) (e : k' = k + 1) : k' = sy_k1 T k := by unfold sy_k1; rw [if_pos h, e]
theorem sy_k1_n {k k' : Int} (h : ¬ (T k = 45)) (e : k' = k) : k' = sy_k1 T k := by unfold sy_k1; rw [if_neg h, e]
def sy_nt (T : Int → Int) (g : Int → Int × Int) (k : Int) : Int × Int := if (sy_nb T (sy_k1 T k)).1 = 0 then g (sy_nb T (sy_k1 T k)).2 else (1, (sy_nb T (sy_k1 T k)).2)
def sy_s3 (T : Int → Int) (k : Int) : Int × Int := if T k = 41 then (if T (pt_sk T (k + 1)) = -1 then (0, -1) else (1, pt_sk T (k + 1))) else (1, k)
def sy_s2 (T : Int → Int) (k : Int) : Int × Int := if T k = 32 then sy_nt T (sy_s3 T) (pt_sk T k) else (1, k)
def sy_s1 (T : Int → Int) (k : Int) : Int × Int := if T k = 32 then sy_nt T (sy_s2 T) (pt_sk T k) else (1, k)
/-- i numbers of the shift are read -/
def sy_sr (T : Int → Int) (i k : Int) : Int × Int := if i = 0 then sy_nt T (sy_s1 T) k else if i = 1 then sy_s1 T k else if i = 2 then sy_s2 T k else sy_s3 T k
/-- at the i-th number -/
def sy_nx (T : Int → Int) (i k : Int) : Int × Int := sy_nt T (sy_sr T (i + 1)) k
def sy_nd (T : Int → Int) (i k : Int) : Int × Int := if (sy_nb T k).1 = 0 then sy_sr T (i + 1) (sy_nb T k).2 else (1, (sy_nb T k).2)
def sy_SI (T : Int → Int) (k0 i k : Int) : Prop := True → sy_sr T 0 k0 = sy_sr T i k
def sy_SX (T : Int → Int) (k0 i k : Int) : Prop := True → sy_sr T 0 k0 = sy_nx T i k
def sy_SD (T : Int → Int) (k0 i k : Int) : Prop := True → sy_sr T 0 k0 = sy_nd T i k
def sy_SF (T : Int → Int) (k0 f p : Int) : Prop := True → ((f = 0 ∧ p = -1 ∧ sy_sr T 0 k0 = (0, -1)) ∨ (0 < f ∧ sy_sr T 0 k0 = (f, p)))
theorem sy_SI_0 {k0 i k : Int} (hi : i = 0) (hk : k = k0) : sy_SI T k0 i k := fun _ => by rw [hi, hk]
theorem sy_SX_0 {k0 i k k' : Int} (h : sy_SI T k0 i k) (hi : i = 0) (hk : k' = k) : sy_SX T k0 i k' := fun t => by
  rw [h t, hi, hk]
  rfl
theorem sy_SX_s {k0 i k k' : Int} (h : sy_SI T k0 i k) (hi : i = 1 ∨ i = 2) (hc : T k = 32) (hk : k' = pt_sk T k) : sy_SX T k0 i k' := fun t => by
  rw [h t, hk]
  rcases hi with e | e
  · subst e
    show sy_s1 T k = sy_nt T (sy_s2 T) (pt_sk T k)
    unfold sy_s1
    rw [if_pos hc]
  · subst e
    show sy_s2 T k = sy_nt T (sy_s3 T) (pt_sk T k)
    unfold sy_s2
    rw [if_pos hc]
theorem sy_SF_s {k0 i k f p : Int} (h : sy_SI T k0 i k) (hi : i = 1 ∨ i = 2) (hc : ¬ (T k = 32)) (hf : f = 1) (hp : p = k) : sy_SF T k0 f p := fun t => by
  refine Or.inr ⟨by omega, ?_⟩
  rw [h t, hf, hp]
  rcases hi with e | e
  · subst e
    show sy_s1 T k = _
    unfold sy_s1
    rw [if_neg hc]
  · subst e
    show sy_s2 T k = _
    unfold sy_s2
    rw [if_neg hc]
theorem sy_SD_of {k0 i k k' : Int} (h : sy_SX T k0 i k) (hk : (T k = 45 ∧ k' = k + 1) ∨ (¬ (T k = 45) ∧ k' = k)) : sy_SD T k0 i k' := fun t => by
  rw [h t]
  have e : sy_k1 T k = k' := by
    rcases hk with ⟨a, b⟩ | ⟨a, b⟩
    · exact (sy_k1_y a b).symm
    · exact (sy_k1_n a b).symm
  unfold sy_nx sy_nt sy_nd
  rw [e]
theorem sy_SF_d {k0 i k f p : Int} (h : sy_SD T k0 i k) (hc : ¬ (48 ≤ T k ∧ T k ≤ 57)) (hf : f = 1) (hp : p = k) : sy_SF T k0 f p := fun t => by
  refine Or.inr ⟨by omega, ?_⟩
  rw [h t, hf, hp]
  unfold sy_nd sy_nb
  rw [if_neg hc, if_neg sy_n1]
theorem sy_SF_g {k0 i k f p : Int} (h : sy_SD T k0 i k) (hc : 48 ≤ T k ∧ T k ≤ 57) (h1 : 48 ≤ T (k + 1) ∧ T (k + 1) ≤ 57) (h2 : ¬ (10 * (T k - 48) + (T (k + 1) - 48) ≤ 11)) (hf : f = 1) (hp : p = k + 1) : sy_SF T k0 f p := fun t => by
  refine Or.inr ⟨by omega, ?_⟩
  rw [h t, hf, hp]
  unfold sy_nd sy_nb
  rw [if_pos hc, if_pos h1, if_neg h2, if_neg sy_n1]
theorem sy_SI_1 {k0 i k i' k' : Int} (h : sy_SD T k0 i k) (hc : 48 ≤ T k ∧ T k ≤ 57) (h1 : ¬ (48 ≤ T (k + 1) ∧ T (k + 1) ≤ 57)) (hi : i' = i + 1) (hk : k' = k + 1) : sy_SI T k0 i' k' := fun t => by
  rw [h t, hi, hk]
  unfold sy_nd sy_nb
  rw [if_pos hc, if_neg h1, if_pos rfl]
theorem sy_SI_2 {k0 i k i' k' : Int} (h : sy_SD T k0 i k) (hc : 48 ≤ T k ∧ T k ≤ 57) (h1 : 48 ≤ T (k + 1) ∧ T (k + 1) ≤ 57) (h2 : 10 * (T k - 48) + (T (k + 1) - 48) ≤ 11) (hi : i' = i + 1) (hk : k' = k + 2) : sy_SI T k0 i' k' := fun t => by
  rw [h t, hi, hk]
  unfold sy_nd sy_nb
  rw [if_pos hc, if_pos h1, if_pos h2, if_pos rfl]
/-- the reference stays at the second digit, and fails there -/
theorem sy_SI_g {k0 i k i' k' : Int} (h : sy_SD T k0 i k) (h0 : 0 ≤ i ∧ i ≤ 2) (hc : 48 ≤ T k ∧ T k ≤ 57) (h1 : 48 ≤ T (k + 1) ∧ T (k + 1) ≤ 57) (h2 : ¬ (10 * (T k - 48) + (T (k + 1) - 48) ≤ 11)) (hi : i' = i + 1) (hk : k' = k + 1) : sy_SI T k0 i' k' := fun t => by
  rw [h t, hi, hk]
  unfold sy_nd sy_nb
  rw [if_pos hc, if_pos h1, if_neg h2, if_neg sy_n1]
  rcases (show i = 0 ∨ i = 1 ∨ i = 2 by omega) with e | e | e
  · subst e
    show _ = sy_s1 T (k + 1)
    unfold sy_s1
    rw [if_neg (by omega)]
  · subst e
    show _ = sy_s2 T (k + 1)
    unfold sy_s2
    rw [if_neg (by omega)]
  · subst e
    show _ = sy_s3 T (k + 1)
    unfold sy_s3
    rw [if_neg (by omega)]
theorem sy_SF_b {k0 i k f p : Int} (h : sy_SI T k0 i k) (hi : i = 3) (hc : ¬ (T k = 41)) (hf : f = 1) (hp : p = k) : sy_SF T k0 f p := fun t => by
  refine Or.inr ⟨by omega, ?_⟩
  rw [h t, hf, hp, hi]
  show sy_s3 T k = _
  unfold sy_s3
  rw [if_neg hc]
theorem sy_SF_e {k0 i k f p s : Int} (h : sy_SI T k0 i k) (hi : i = 3) (hc : T k = 41) (hs : s = pt_sk T (k + 1)) (ht : ¬ (T s = -1)) (hf : f = 1) (hp : p = s) : sy_SF T k0 f p := fun t => by
  refine Or.inr ⟨by omega, ?_⟩
  subst hs
  rw [h t, hf, hp, hi]
  show sy_s3 T k = _
  unfold sy_s3
  rw [if_pos hc, if_neg ht]
theorem sy_SF_0 {k0 i k f p s : Int} (h : sy_SI T k0 i k) (hi : i = 3) (hc : T k = 41) (hs : s = pt_sk T (k + 1)) (ht : T s = -1) (hf : f = 0) (hp : p = -1) : sy_SF T k0 f p := fun t => by
  refine Or.inl ⟨hf, hp, ?_⟩
  subst hs
  rw [h t, hi]
  show sy_s3 T k = _
  unfold sy_s3
  rw [if_pos hc, if_pos ht]
def sy_S4 (T : Int → Int) (k0 s : Int) : Prop := True → sy_sr T 0 k0 = if T s = -1 then (0, -1) else (1, s)
theorem sy_S4_of {k0 i k s : Int} (h : sy_SI T k0 i k) (hi : i = 3) (hc : T k = 41) (hs : s = pt_sk T (k + 1)) : sy_S4 T k0 s := fun t => by
  subst hs
  rw [h t, hi]
  show sy_s3 T k = _
  unfold sy_s3
  rw [if_pos hc]
theorem sy_SF_4e {k0 s f p : Int} (h : sy_S4 T k0 s) (ht : ¬ (T s = -1)) (hf : f = 1) (hp : p = s) : sy_SF T k0 f p := fun t => by
  refine Or.inr ⟨by omega, ?_⟩
  rw [h t, if_neg ht, hf, hp]
theorem sy_SF_40 {k0 s f p : Int} (h : sy_S4 T k0 s) (ht : T s = -1) (hf : f = 0) (hp : p = -1) : sy_SF T k0 f p := fun t => by
  refine Or.inl ⟨hf, hp, ?_⟩
  rw [h t, if_pos ht]
theorem sy_SF_q {k0 f p f' p' : Int} (h : sy_SF T k0 f p) (hf : f' = f) (hp : p' = p) : sy_SF T k0 f' p' := by
  rw [hf, hp]
  exact h
/-- the matrices -/
def sy_tbl : List Int := [1, 0, 0, 0, 1, 0, 0, 0, 1, -1, 0, 0, 0, -1, 0, 0, 0, 1, 0, -1, 0, 1, -1, 0, 0, 0, 1, 0, -1, 0, 1, 0, 0, 0, 0, 1, 1, -1, 0, 1, 0, 0, 0, 0, 1, 0, -1, 0, -1, 0, 0, 0, 0, -1, 0, 1, 0, 1, 0, 0, 0, 0, -1, 0, 0, 1, 1, 0, 0, 0, 1, 0]
def sy_b (kd i : Int) : Int := sy_tbl.getD (9 * kd + i).toNat 0
def sy_kd (n its : Int) : Int := if its = 3 then 5 else if its = 4 then 6 else if its = 5 then 7 else if n = 6 then 4 else n - 1
def sy_al (ax its : Int) : Int := if its = 3 ∨ its = 4 then ax else if its = 5 then 2 else its
def sy_mf (kd al mi : Int) : Int → Int := fun k => if mi = 0 then pm_ta al (sy_b kd) k else -(pm_ta al (sy_b kd) k)
def sy_mx (n its ax mi : Int) : pc_M := pt_m (sy_mf (sy_kd n its) (sy_al ax its) mi) 0
def sy_us (rot an n : Int) : Int := if rot = 1 ∧ n = 2 ∧ (an = 2 ∨ an = 4) then 0 else if rot = 1 ∧ n = 2 ∧ (an = 3 ∨ an = 6) then 3 else if rot = 2 ∧ n = 3 then 5 else 2
theorem sy_us_v (rot an n : Int) : (rot = 1 ∧ n = 2 ∧ (an = 2 ∨ an = 4) ∧ sy_us rot an n = 0) ∨ (rot = 1 ∧ n = 2 ∧ (an = 3 ∨ an = 6) ∧ sy_us rot an n = 3) ∨ (rot = 2 ∧ n = 3 ∧ sy_us rot an n = 5) ∨ (¬ (rot = 1 ∧ n = 2 ∧ (an = 2 ∨ an = 4)) ∧ ¬ (rot = 1 ∧ n = 2 ∧ (an = 3 ∨ an = 6)) ∧ ¬ (rot = 2 ∧ n = 3) ∧ sy_us rot an n = 2) := by
  unfold sy_us
  split
  · omega
  · split
    · omega
    · split <;> omega
/-- a rotation: fault, place, number, axis, matrix -/
abbrev sy_Z : Type := Int × Int × Int × Int × pc_M
def sy_rC (T : Int → Int) (ax mi n its k : Int) : sy_Z := if (sy_mv T n its 0 k).1 = 0 then (0, (sy_mv T n its 0 k).2, n, its, sy_mx n its ax mi) else ((sy_mv T n its 0 k).1, (sy_mv T n its 0 k).2, 0, 0, pt_0)
def sy_rB (T : Int → Int) (rot an ax mi n k : Int) : sy_Z :=
  if ((T k = 39 ∨ T k = 34) ∧ ¬ (n = 2)) ∨ (T k = 42 ∧ ¬ (n = 3)) then (6, k, 0, 0, pt_0)
  else if 120 ≤ T k ∧ T k ≤ 122 then sy_rC T ax mi n (T k - 120) (k + 1)
  else if T k = 39 then sy_rC T ax mi n 3 (k + 1)
  else if T k = 34 then sy_rC T ax mi n 4 (k + 1)
  else if T k = 42 then sy_rC T ax mi n 5 (k + 1)
  else sy_rC T ax mi n (sy_us rot an n) k
def sy_rA (T : Int → Int) (rot an ax mi k : Int) : sy_Z := if T k - 48 = 1 ∨ T k - 48 = 2 ∨ T k - 48 = 3 ∨ T k - 48 = 4 ∨ T k - 48 = 6 then sy_rB T rot an ax mi (T k - 48) (k + 1) else (1, k, 0, 0, pt_0)
def sy_rt (T : Int → Int) (s rot an ax : Int) : sy_Z := if T s = 45 then sy_rA T rot an ax 1 (s + 1) else sy_rA T rot an ax 0 s
def sy_EA (T : Int → Int) (s rot an ax mi k : Int) : Prop := True → sy_rt T s rot an ax = sy_rA T rot an ax mi k
def sy_EB (T : Int → Int) (s rot an ax mi n k : Int) : Prop := True → sy_rt T s rot an ax = sy_rB T rot an ax mi n k
def sy_EC (T : Int → Int) (s rot an ax mi n its k : Int) : Prop := True → sy_rt T s rot an ax = sy_rC T ax mi n its k
/-- a rotation was read -/
def sy_RO (T : Int → Int) (s rot an ax k n its : Int) (m : pc_M) (f p : Int) : Prop := True → ((f = 0 ∧ sy_rt T s rot an ax = (0, k, n, its, m)) ∨ (0 < f ∧ sy_rt T s rot an ax = (f, p, 0, 0, pt_0)))
variable {s rot an ax mi n its k k' f p : Int} {m : pc_M}
theorem sy_EA_of (h : (T s = 45 ∧ mi = 1 ∧ k = s + 1) ∨ (¬ (T s = 45) ∧ mi = 0 ∧ k = s)) : sy_EA T s rot an ax mi k := fun _ => by
  unfold sy_rt
  rcases h with ⟨a, b, c⟩ | ⟨a, b, c⟩
  · rw [if_pos a, b, c]
  · rw [if_neg a, b, c]
theorem sy_EB_of (h : sy_EA T s rot an ax mi k) (hn : n = T k - 48) (hr : n = 1 ∨ n = 2 ∨ n = 3 ∨ n = 4 ∨ n = 6) (hk : k' = k + 1) : sy_EB T s rot an ax mi n k' := fun t => by
  rw [h t]
  unfold sy_rA
  rw [← hn, if_pos hr, hk]
theorem sy_RA_x {kk nn ii : Int} (h : sy_EA T s rot an ax mi k) (hr : ¬ (T k - 48 = 1 ∨ T k - 48 = 2 ∨ T k - 48 = 3 ∨ T k - 48 = 4 ∨ T k - 48 = 6)) (hf : f = 1) (hp : p = k) : sy_RO T s rot an ax kk nn ii m f p := fun t => by
  refine Or.inr ⟨by omega, ?_⟩
  rw [h t]
  unfold sy_rA
  rw [if_neg hr, hf, hp]
theorem sy_RB_w {kk nn ii : Int} (h : sy_EB T s rot an ax mi n k) (hr : ((T k = 39 ∨ T k = 34) ∧ ¬ (n = 2)) ∨ (T k = 42 ∧ ¬ (n = 3))) (hf : f = 6) (hp : p = k) : sy_RO T s rot an ax kk nn ii m f p := fun t => by
  refine Or.inr ⟨by omega, ?_⟩
  rw [h t]
  unfold sy_rB
  rw [if_pos hr, hf, hp]
theorem sy_EC_a (h : sy_EB T s rot an ax mi n k) (hr : ¬ (((T k = 39 ∨ T k = 34) ∧ ¬ (n = 2)) ∨ (T k = 42 ∧ ¬ (n = 3)))) (hi : (120 ≤ T k ∧ T k ≤ 122 ∧ its = T k - 120) ∨ (T k = 39 ∧ its = 3) ∨ (T k = 34 ∧ its = 4) ∨ (T k = 42 ∧ its = 5)) (hk : k' = k + 1) : sy_EC T s rot an ax mi n its k' := fun t => by
  rw [h t, hk]
  unfold sy_rB
  rw [if_neg hr]
  rcases hi with ⟨a, b, c⟩ | ⟨a, c⟩ | ⟨a, c⟩ | ⟨a, c⟩
  · rw [if_pos ⟨a, b⟩, c]
  · rw [if_neg (by omega), if_pos a, c]
  · rw [if_neg (by omega), if_neg (by omega), if_pos a, c]
  · rw [if_neg (by omega), if_neg (by omega), if_neg (by omega), if_pos a, c]
theorem sy_EC_u (h : sy_EB T s rot an ax mi n k) (hr : ¬ (120 ≤ T k ∧ T k ≤ 122) ∧ ¬ (T k = 39) ∧ ¬ (T k = 34) ∧ ¬ (T k = 42)) (hi : its = sy_us rot an n) (hk : k' = k) : sy_EC T s rot an ax mi n its k' := fun t => by
  rw [h t, hk]
  unfold sy_rB
  rw [if_neg (by omega), if_neg hr.1, if_neg hr.2.1, if_neg hr.2.2.1, if_neg hr.2.2.2, hi]
theorem sy_RC_f {kk nn ii kq : Int} (h : sy_EC T s rot an ax mi n its k) (v : sy_MV T n its k kq f p) (hf : 0 < f) : sy_RO T s rot an ax kk nn ii m f p := fun t => by
  refine Or.inr ⟨hf, ?_⟩
  rcases v t with ⟨e, _⟩ | ⟨_, e⟩
  · omega
  · rw [h t]
    unfold sy_rC
    rw [e, if_neg (show ¬ (f = 0) by omega)]
theorem sy_RC_0 {kk nn ii kq f' p' : Int} (h : sy_EC T s rot an ax mi n its k) (v : sy_MV T n its k kq f p) (hf : f = 0) (hf' : f' = 0) (h1 : kk = kq) (h2 : nn = n) (h3 : ii = its) (hm : m = sy_mx n its ax mi) : sy_RO T s rot an ax kk nn ii m f' p' := fun t => by
  refine Or.inl ⟨hf', ?_⟩
  rcases v t with ⟨_, e⟩ | ⟨e, _⟩
  · rw [h t]
    unfold sy_rC
    rw [e, if_pos rfl, h1, h2, h3, hm]
  · omega
/-- the words: rotations, at last a shift -/
def sy_wdf (T : Int → Int) : Nat → Int → Int → Int → Int → List pc_M → pt_R
  | 0, k, _, _, _, L =>
    if ¬ (T k = -1) ∧ ¬ (T k = 32) then (1, k, [])
    else if T (pt_sk T k) = 45 ∨ (T (pt_sk T k) - 48 = 1 ∨ T (pt_sk T k) - 48 = 2 ∨ T (pt_sk T k) - 48 = 3 ∨ T (pt_sk T k) - 48 = 4 ∨ T (pt_sk T k) - 48 = 6) then (8, pt_sk T k, [])
    else if T (pt_sk T k) = 40 then (if (sy_sr T 0 (pt_sk T k + 1)).1 = 0 then (0, -1, L) else ((sy_sr T 0 (pt_sk T k + 1)).1, (sy_sr T 0 (pt_sk T k + 1)).2, []))
    else if T (pt_sk T k) = -1 then (0, -1, L) else (1, pt_sk T k, [])
  | f + 1, k, rot, an, ax, L =>
    if ¬ (T k = -1) ∧ ¬ (T k = 32) then (1, k, [])
    else if T (pt_sk T k) = 45 ∨ (T (pt_sk T k) - 48 = 1 ∨ T (pt_sk T k) - 48 = 2 ∨ T (pt_sk T k) - 48 = 3 ∨ T (pt_sk T k) - 48 = 4 ∨ T (pt_sk T k) - 48 = 6) then
      (if (sy_rt T (pt_sk T k) rot an ax).1 = 0 then sy_wdf T f (sy_rt T (pt_sk T k) rot an ax).2.1 (rot + 1) (sy_rt T (pt_sk T k) rot an ax).2.2.1 (sy_rt T (pt_sk T k) rot an ax).2.2.2.1 (L ++ [(sy_rt T (pt_sk T k) rot an ax).2.2.2.2]) else ((sy_rt T (pt_sk T k) rot an ax).1, (sy_rt T (pt_sk T k) rot an ax).2.1, []))
    else if T (pt_sk T k) = 40 then (if (sy_sr T 0 (pt_sk T k + 1)).1 = 0 then (0, -1, L) else ((sy_sr T 0 (pt_sk T k + 1)).1, (sy_sr T 0 (pt_sk T k + 1)).2, []))
    else if T (pt_sk T k) = -1 then (0, -1, L) else (1, pt_sk T k, [])
def sy_wd (T : Int → Int) (k rot an ax : Int) (L : List pc_M) : pt_R := sy_wdf T (4 - rot).toNat k rot an ax L
def sy_id (n : Int) : List pc_M := List.replicate n.toNat pc_1
def sy_ln (c : Int) : Int := if c = 70 then 3 else if c = 82 then 2 else if c = 80 then 0 else 1
def sy_I : pc_M := (-1, 0, 0, 0, -1, 0, 0, 0, -1)
def sy_la (c : Int) : Prop := c = 80 ∨ c = 65 ∨ c = 66 ∨ c = 67 ∨ c = 73 ∨ c = 70 ∨ c = 82
def sy_all (T : Int → Int) : pt_R :=
  if T (sy_k1 T (pt_sk T 0)) = 80 ∨ T (sy_k1 T (pt_sk T 0)) = 65 ∨ T (sy_k1 T (pt_sk T 0)) = 66 ∨ T (sy_k1 T (pt_sk T 0)) = 67 ∨ T (sy_k1 T (pt_sk T 0)) = 73 ∨ T (sy_k1 T (pt_sk T 0)) = 70 ∨ T (sy_k1 T (pt_sk T 0)) = 82 then
    sy_wd T (sy_k1 T (pt_sk T 0) + 1) 0 0 2 (sy_id (sy_ln (T (sy_k1 T (pt_sk T 0)))) ++ if T (pt_sk T 0) = 45 then [sy_I] else [])
  else (1, sy_k1 T (pt_sk T 0), [])
/-- the whole text of a symbol -/
def sy_RR (T : Int → Int) (f p : Int) (L : List pc_M) : Prop := True → ((f = 0 ∧ p = -1 ∧ sy_all T = (0, -1, L)) ∨ (0 < f ∧ sy_all T = (f, p, [])))
theorem sy_RR_det {f p f' p' : Int} {L L' : List pc_M} (h : sy_RR T f p L) (h' : sy_RR T f' p' L') : f = f' ∧ p = p' ∧ (f = 0 → L = L') := by
  rcases h trivial with ⟨a, b, c⟩ | ⟨a, c⟩ <;> rcases h' trivial with ⟨a', b', c'⟩ | ⟨a', c'⟩ <;> rw [c] at c' <;> simp only [Prod.mk.injEq] at c'
  · exact ⟨by omega, by omega, fun _ => c'.2.2⟩
  · omega
  · omega
  · exact ⟨c'.1, c'.2.1, fun e => by omega⟩
/-- ahead of a word -/
def sy_W (T : Int → Int) (k rot an ax : Int) (L : List pc_M) : Prop := True → sy_all T = sy_wd T k rot an ax L
theorem sy_wd_u (k rot an ax : Int) (L : List pc_M) : sy_wd T k rot an ax L = (
    if ¬ (T k = -1) ∧ ¬ (T k = 32) then (1, k, [])
    else if T (pt_sk T k) = 45 ∨ (T (pt_sk T k) - 48 = 1 ∨ T (pt_sk T k) - 48 = 2 ∨ T (pt_sk T k) - 48 = 3 ∨ T (pt_sk T k) - 48 = 4 ∨ T (pt_sk T k) - 48 = 6) then
      (if 4 ≤ rot then (8, pt_sk T k, []) else if (sy_rt T (pt_sk T k) rot an ax).1 = 0 then sy_wd T (sy_rt T (pt_sk T k) rot an ax).2.1 (rot + 1) (sy_rt T (pt_sk T k) rot an ax).2.2.1 (sy_rt T (pt_sk T k) rot an ax).2.2.2.1 (L ++ [(sy_rt T (pt_sk T k) rot an ax).2.2.2.2]) else ((sy_rt T (pt_sk T k) rot an ax).1, (sy_rt T (pt_sk T k) rot an ax).2.1, []))
    else if T (pt_sk T k) = 40 then (if (sy_sr T 0 (pt_sk T k + 1)).1 = 0 then (0, -1, L) else ((sy_sr T 0 (pt_sk T k + 1)).1, (sy_sr T 0 (pt_sk T k + 1)).2, []))
    else if T (pt_sk T k) = -1 then (0, -1, L) else (1, pt_sk T k, [])) := by
  by_cases h : 4 ≤ rot
  · rw [if_pos h]
    unfold sy_wd
    have e : (4 - rot).toNat = 0 := by omega
    rw [e]
    rfl
  · rw [if_neg h]
    unfold sy_wd
    obtain ⟨f, e⟩ : ∃ f, (4 - rot).toNat = f + 1 := ⟨(4 - rot).toNat - 1, by omega⟩
    have e' : (4 - (rot + 1)).toNat = f := by omega
    rw [e, e']
    rfl
theorem sy_W_0 {L : List pc_M} {s c mi : Int} (hs : s = pt_sk T 0) (hk : (T s = 45 ∧ mi = 1 ∧ k' = s + 1) ∨ (¬ (T s = 45) ∧ mi = 0 ∧ k' = s)) (hc : c = T k') (hl : c = 80 ∨ c = 65 ∨ c = 66 ∨ c = 67 ∨ c = 73 ∨ c = 70 ∨ c = 82) (hL : L = sy_id (sy_ln c) ++ if mi = 1 then [sy_I] else []) (h1 : k = k' + 1) (h2 : rot = 0) (h3 : an = 0) (h4 : ax = 2) : sy_W T k rot an ax L := fun _ => by
  have e : sy_k1 T s = k' := by
    rcases hk with ⟨a, _, b⟩ | ⟨a, _, b⟩
    · exact (sy_k1_y a b).symm
    · exact (sy_k1_n a b).symm
  unfold sy_all
  rw [← hs, e, ← hc, if_pos hl, h1, h2, h3, h4, hL]
  congr 2
  rcases hk with ⟨a, b, _⟩ | ⟨a, b, _⟩
  · rw [if_pos a, if_pos b]
  · rw [if_neg a, if_neg (by omega)]
theorem sy_RR_l {L : List pc_M} {s c : Int} (hs : s = pt_sk T 0) (hk : (T s = 45 ∧ k' = s + 1) ∨ (¬ (T s = 45) ∧ k' = s)) (hc : c = T k') (hl : ¬ (c = 80 ∨ c = 65 ∨ c = 66 ∨ c = 67 ∨ c = 73 ∨ c = 70 ∨ c = 82)) (hf : f = 1) (hp : p = k') : sy_RR T f p L := fun _ => by
  have e : sy_k1 T s = k' := by
    rcases hk with ⟨a, b⟩ | ⟨a, b⟩
    · exact (sy_k1_y a b).symm
    · exact (sy_k1_n a b).symm
  refine Or.inr ⟨by omega, ?_⟩
  unfold sy_all
  rw [← hs, e, ← hc, if_neg hl, hf, hp]
theorem sy_W_x {L L' : List pc_M} (h : sy_W T k rot an ax L) (hc : ¬ (T k = -1) ∧ ¬ (T k = 32)) (hf : f = 1) (hp : p = k) : sy_RR T f p L' := fun t => by
  refine Or.inr ⟨by omega, ?_⟩
  rw [h t, sy_wd_u, if_pos hc, hf, hp]
/-- at a word, behind its blanks -/
def sy_V (T : Int → Int) (s rot an ax : Int) (L : List pc_M) : Prop := True → sy_all T = (
    if T s = 45 ∨ (T s - 48 = 1 ∨ T s - 48 = 2 ∨ T s - 48 = 3 ∨ T s - 48 = 4 ∨ T s - 48 = 6) then
      (if 4 ≤ rot then (8, s, []) else if (sy_rt T s rot an ax).1 = 0 then sy_wd T (sy_rt T s rot an ax).2.1 (rot + 1) (sy_rt T s rot an ax).2.2.1 (sy_rt T s rot an ax).2.2.2.1 (L ++ [(sy_rt T s rot an ax).2.2.2.2]) else ((sy_rt T s rot an ax).1, (sy_rt T s rot an ax).2.1, []))
    else if T s = 40 then (if (sy_sr T 0 (s + 1)).1 = 0 then (0, -1, L) else ((sy_sr T 0 (s + 1)).1, (sy_sr T 0 (s + 1)).2, []))
    else if T s = -1 then (0, -1, L) else (1, s, []))
theorem sy_V_of {L L' : List pc_M} {rot' an' ax' : Int} (h : sy_W T k rot an ax L) (hc : T k = -1 ∨ T k = 32) (hs : s = pt_sk T k) (h1 : rot' = rot) (h2 : an' = an) (h3 : ax' = ax) (hL : L' = L) : sy_V T s rot' an' ax' L' := fun t => by
  rw [h t, sy_wd_u, ← hs, if_neg (by omega), h1, h2, h3, hL]
theorem sy_V_8 {L L' : List pc_M} (h : sy_V T s rot an ax L) (hr : T s = 45 ∨ (T s - 48 = 1 ∨ T s - 48 = 2 ∨ T s - 48 = 3 ∨ T s - 48 = 4 ∨ T s - 48 = 6)) (h4 : 4 ≤ rot) (hf : f = 8) (hp : p = s) : sy_RR T f p L' := fun t => by
  refine Or.inr ⟨by omega, ?_⟩
  rw [h t, if_pos hr, if_pos h4, hf, hp]
theorem sy_V_f {L L' : List pc_M} {nn ii kk : Int} (h : sy_V T s rot an ax L) (hr : T s = 45 ∨ (T s - 48 = 1 ∨ T s - 48 = 2 ∨ T s - 48 = 3 ∨ T s - 48 = 4 ∨ T s - 48 = 6)) (h4 : ¬ (4 ≤ rot)) (r : sy_RO T s rot an ax kk nn ii m f p) (hf : 0 < f) : sy_RR T f p L' := fun t => by
  refine Or.inr ⟨hf, ?_⟩
  rcases r t with ⟨e, _⟩ | ⟨_, e⟩
  · omega
  · rw [h t, if_pos hr, if_neg h4, e, if_neg (show ¬ (f = 0) by omega)]
theorem sy_V_r {L L' : List pc_M} {nn ii kk rot' : Int} (h : sy_V T s rot an ax L) (hr : T s = 45 ∨ (T s - 48 = 1 ∨ T s - 48 = 2 ∨ T s - 48 = 3 ∨ T s - 48 = 4 ∨ T s - 48 = 6)) (h4 : ¬ (4 ≤ rot)) (r : sy_RO T s rot an ax kk nn ii m f p) (hf : f = 0) (h5 : rot' = rot + 1) (hL : L' = L ++ [m]) : sy_W T kk rot' nn ii L' := fun t => by
  rcases r t with ⟨_, e⟩ | ⟨e, _⟩
  · rw [h t, if_pos hr, if_neg h4, e, if_pos rfl, h5, hL]
  · omega
theorem sy_V_s {L L' : List pc_M} (h : sy_V T s rot an ax L) (hr : T s = 40) (v : sy_SF T k' f p) (hk : k' = s + 1) (hL : 0 < f ∨ L' = L) : sy_RR T f p L' := fun t => by
  subst hk
  rcases v t with ⟨e, g, v⟩ | ⟨e, v⟩
  · refine Or.inl ⟨e, g, ?_⟩
    rw [h t, if_neg (by omega), if_pos hr, v, if_pos rfl]
    rcases hL with z | z
    · omega
    · rw [z]
  · refine Or.inr ⟨e, ?_⟩
    rw [h t, if_neg (by omega), if_pos hr, v, if_neg (show ¬ (f = 0) by omega)]
theorem sy_V_e {L L' : List pc_M} (h : sy_V T s rot an ax L) (hr : T s = -1) (hf : f = 0) (hp : p = -1) (hL : L' = L) : sy_RR T f p L' := fun t => by
  refine Or.inl ⟨hf, hp, ?_⟩
  rw [h t, if_neg (by omega), if_neg (by omega), if_pos hr, hL]
theorem sy_V_y {L L' : List pc_M} (h : sy_V T s rot an ax L) (hr : ¬ (T s = 45 ∨ (T s - 48 = 1 ∨ T s - 48 = 2 ∨ T s - 48 = 3 ∨ T s - 48 = 4 ∨ T s - 48 = 6))) (h4 : ¬ (T s = 40)) (h5 : ¬ (T s = -1)) (hf : f = 1) (hp : p = s) : sy_RR T f p L' := fun t => by
  refine Or.inr ⟨by omega, ?_⟩
  rw [h t, if_neg hr, if_neg h4, if_neg h5, hf, hp]
/-- at the head of the loop over the words: on, or done -/
def sy_H (T : Int → Int) (g k rot an ax f p : Int) (L : List pc_M) : Prop := True → ((g = 1 ∧ f = 0 ∧ p = -1 ∧ sy_W T k rot an ax L) ∨ ((g = 0 ∨ 0 < f) ∧ sy_RR T f p L))
theorem sy_H_1 {L : List pc_M} {g : Int} (h : sy_W T k rot an ax L) (hg : g = 1) (hf : f = 0) (hp : p = -1) : sy_H T g k rot an ax f p L := fun _ => Or.inl ⟨hg, hf, hp, h⟩
theorem sy_H_0 {L : List pc_M} {g : Int} (h : sy_RR T f p L) (hg : g = 0 ∨ 0 < f) : sy_H T g k rot an ax f p L := fun _ => Or.inr ⟨hg, h⟩
theorem sy_H_w {L : List pc_M} {g : Int} (h : sy_H T g k rot an ax f p L) (hg : ¬ (g = 0)) (hf : ¬ (0 < f)) : sy_W T k rot an ax L := by
  rcases h trivial with ⟨_, _, _, a⟩ | ⟨a, _⟩
  · exact a
  · omega
theorem sy_H_e {L : List pc_M} {g : Int} (h : sy_H T g k rot an ax f p L) (hg : g = 0 ∨ 0 < f) : sy_RR T f p L := by
  rcases h trivial with ⟨a, b, _⟩ | ⟨_, a⟩
  · omega
  · exact a
theorem sy_H_q {L L' : List pc_M} {g g' k' rot' an' ax' f' p' : Int} (h : sy_H T g k rot an ax f p L) (h0 : g' = g) (h1 : k' = k) (h2 : rot' = rot) (h3 : an' = an) (h4 : ax' = ax) (h5 : f' = f) (h6 : p' = p) (h7 : L' = L) : sy_H T g' k' rot' an' ax' f' p' L' := by
  rw [h0, h1, h2, h3, h4, h5, h6, h7]
  exact h
theorem sy_W_q {L L' : List pc_M} {k' rot' an' ax' : Int} (h : sy_W T k rot an ax L) (h1 : k' = k) (h2 : rot' = rot) (h3 : an' = an) (h4 : ax' = ax) (h7 : L' = L) : sy_W T k' rot' an' ax' L' := by
  rw [h1, h2, h3, h4, h7]
  exact h
end SY
/-! symbols: what the reference's heap holds on the way -/
section SYR
variable {σ τ : pm_H} {n n' N : Int}
def sy_AI (τ : pm_H) : Prop := True → pt_Ls (τ 81) (τ 77 11) 12 = sy_id (τ 77 11)
theorem sy_id_0 : sy_id 0 = [] := rfl
theorem sy_id_s {n : Int} (h : 0 ≤ n) : sy_id (n + 1) = sy_id n ++ [pc_1] := by
  unfold sy_id
  have e : (n + 1).toNat = n.toNat + 1 := by omega
  rw [e, List.replicate_succ']
theorem sy_AI_0 (h : τ 77 11 = 0) : sy_AI τ := fun _ => by
  rw [h]
  exact pt_Ls_0 rfl
theorem sy_AI_s (h : sy_AI σ) (hN : 0 ≤ N) (e : σ 77 11 = N) (e' : τ 77 11 = N + 1) (he : pm_er τ 81 0 (12 * N) (σ 81)) (hm : pt_m (τ 81) (12 * N) = pc_1) : sy_AI τ := fun t => by
  have a := h t
  rw [e] at a
  rw [pt_Ls_p hN e' he, hm, a, e', sy_id_s hN]
theorem sy_AI_eq (h : sy_AI σ) (e1 : τ 81 = σ 81) (e2 : τ 77 11 = σ 77 11) : sy_AI τ := fun t => by
  rw [e1, e2]
  exact h t
theorem sy_m1 {f : Int → Int} {q : Nat} (h : pm_er τ q 0 9 f) : pt_m (τ q) 0 = pt_m f 0 := by
  unfold pt_m
  simp only [Int.zero_add]
  rw [h 0 (by omega) (by omega), h 1 (by omega) (by omega), h 2 (by omega) (by omega), h 3 (by omega) (by omega), h 4 (by omega) (by omega), h 5 (by omega) (by omega), h 6 (by omega) (by omega), h 7 (by omega) (by omega), h 8 (by omega) (by omega)]
theorem sy_m_id : pt_m pm_idf 0 = pc_1 := rfl
theorem sy_m_mid : pt_m (fun k => -(pm_idf k)) 0 = sy_I := rfl
/-- 'one' is half turned round -/
def sy_hf (τ : pm_H) (mi k kd al : Int) : Prop := True → ∀ j : Int, 0 ≤ j → j < 9 → τ 83 j = if j < k then sy_mf kd al mi j else pm_ta al (sy_b kd) j
theorem sy_hf_0 {a b c d e f g h i x al kd mi : Int} (he : pm_er τ 83 0 9 (pm_ta x (σ 84))) (h0 : σ 84 0 = a ∧ σ 84 1 = b ∧ σ 84 2 = c ∧ σ 84 3 = d ∧ σ 84 4 = e ∧ σ 84 5 = f ∧ σ 84 6 = g ∧ σ 84 7 = h ∧ σ 84 8 = i) (hv : a = sy_b kd 0 ∧ b = sy_b kd 1 ∧ c = sy_b kd 2 ∧ d = sy_b kd 3 ∧ e = sy_b kd 4 ∧ f = sy_b kd 5 ∧ g = sy_b kd 6 ∧ h = sy_b kd 7 ∧ i = sy_b kd 8) (hx : pm_s3 x = pm_s3 al) : sy_hf τ mi 0 kd al := fun _ j j1 j2 => by
  rw [he j j1 j2, if_neg (by omega)]
  unfold pm_ta
  rw [hx]
  have s := pm_s3_c al
  have q : ∀ y : Int, 0 ≤ y → y < 9 → σ 84 y = sy_b kd y := fun y y1 y2 => by
    obtain ⟨a0, a1, a2, a3, a4, a5, a6, a7, a8⟩ := h0
    obtain ⟨b0, b1, b2, b3, b4, b5, b6, b7, b8⟩ := hv
    rcases (show y = 0 ∨ y = 1 ∨ y = 2 ∨ y = 3 ∨ y = 4 ∨ y = 5 ∨ y = 6 ∨ y = 7 ∨ y = 8 by omega) with z | z | z | z | z | z | z | z | z <;> subst z
    · exact a0.trans b0
    · exact a1.trans b1
    · exact a2.trans b2
    · exact a3.trans b3
    · exact a4.trans b4
    · exact a5.trans b5
    · exact a6.trans b6
    · exact a7.trans b7
    · exact a8.trans b8
  exact q _ (by omega) (by omega)
theorem sy_hf_n {a b c d e f g h i x ax n its mi : Int} (he : pm_er τ 83 0 9 (pm_ta x (σ 84))) (h0 : σ 84 0 = a ∧ σ 84 1 = b ∧ σ 84 2 = c ∧ σ 84 3 = d ∧ σ 84 4 = e ∧ σ 84 5 = f ∧ σ 84 6 = g ∧ σ 84 7 = h ∧ σ 84 8 = i) (hv : a = sy_b (if n = 6 then 4 else n - 1) 0 ∧ b = sy_b (if n = 6 then 4 else n - 1) 1 ∧ c = sy_b (if n = 6 then 4 else n - 1) 2 ∧ d = sy_b (if n = 6 then 4 else n - 1) 3 ∧ e = sy_b (if n = 6 then 4 else n - 1) 4 ∧ f = sy_b (if n = 6 then 4 else n - 1) 5 ∧ g = sy_b (if n = 6 then 4 else n - 1) 6 ∧ h = sy_b (if n = 6 then 4 else n - 1) 7 ∧ i = sy_b (if n = 6 then 4 else n - 1) 8) (hi : 0 ≤ its ∧ its ≤ 2) (hx : x = its) : sy_hf τ mi 0 (sy_kd n its) (sy_al ax its) := by
  have e1 : sy_kd n its = if n = 6 then 4 else n - 1 := by
    unfold sy_kd
    rw [if_neg (by omega), if_neg (by omega), if_neg (by omega)]
  have e2 : sy_al ax its = its := by
    unfold sy_al
    rw [if_neg (by omega), if_neg (by omega)]
  rw [e1, e2]
  exact sy_hf_0 he h0 hv (by rw [hx])
theorem sy_hf_s {mi k k' kd al v : Int} (h : sy_hf τ mi k kd al) (hk : 0 ≤ k ∧ k < 9) (hk' : k' = k + 1) (hv : (mi = 0 → v = τ 83 k) ∧ (¬ mi = 0 → v = -(τ 83 k))) : sy_hf (pm_up τ 83 k v) mi k' kd al := fun t j j1 j2 => by
  subst hk'
  by_cases e : j = k
  · subst e
    have z := h t j j1 j2
    rw [if_neg (by omega)] at z
    rw [pu_same, if_pos (by omega)]
    unfold sy_mf
    split
    · rw [hv.1 (by assumption), z]
    · rw [hv.2 (by assumption), z]
  · rw [pu_nei e, h t j j1 j2]
    by_cases c : j < k
    · rw [if_pos c, if_pos (by omega)]
    · rw [if_neg c, if_neg (by omega)]
theorem sy_hf_9 {mi k k' kd al : Int} (h : sy_hf τ mi k kd al) (hk : 9 ≤ k) (hk' : 9 ≤ k') : sy_hf τ mi k' kd al := fun t j j1 j2 => by
  have z := h t j j1 j2
  rw [if_pos (by omega)] at z
  rw [if_pos (by omega)]
  exact z
theorem sy_hf_uo {mi k kd al i v : Int} (h : sy_hf τ mi k kd al) (hi : 9 ≤ i) : sy_hf (pm_up τ 83 i v) mi k kd al := fun t j j1 j2 => by
  rw [pu_nei (by omega)]
  exact h t j j1 j2
theorem sy_hf_m {mi k n its ax : Int} (h : sy_hf σ mi k (sy_kd n its) (sy_al ax its)) (hk : 9 ≤ k) (e : pm_er τ 83 0 9 (σ 83)) : pt_m (τ 83) 0 = sy_mx n its ax mi := by
  rw [sy_m1 e]
  exact sy_m1 (fun j j1 j2 => by
    have z := h trivial j j1 j2
    rw [if_pos (by omega)] at z
    exact z)
theorem sy_s3_e {x ax : Int} (h : (x = ax ∧ (ax = 0 ∨ ax = 1)) ∨ (x = 2 ∧ ¬ (ax = 0) ∧ ¬ (ax = 1))) : pm_s3 x = pm_s3 ax := by
  rcases h with ⟨a, _⟩ | ⟨a, b, c⟩
  · rw [a]
  · rw [pm_s3_2 (show ¬ (x = 0) by omega) (by omega), pm_s3_2 b c]
/-- generators keep their matrices where only the moves change -/
def sy_LK (σ τ : pm_H) (n : Int) : Prop := True → pt_Ls (τ 81) n 12 = pt_Ls (σ 81) n 12
theorem sy_LK_rf (e : τ 81 = σ 81) : sy_LK σ τ n := fun _ => by rw [e]
theorem sy_LK_tr {ρ : pm_H} (h : sy_LK σ τ n) (e : ρ 81 = τ 81) : sy_LK σ ρ n := fun t => by rw [e]; exact h t
theorem sy_LK_up {k g i v : Int} (h : sy_LK σ τ n) (hk : k = 12 * g + 9 + i) (hi : 0 ≤ i ∧ i < 3) : sy_LK σ (pm_up τ 81 k v) n := fun t => by
  rw [← h t]
  unfold pt_Ls
  refine List.map_congr_left (fun q _ => ?_)
  unfold pt_m
  simp only [Prod.mk.injEq]
  refine ⟨?_, ?_, ?_, ?_, ?_, ?_, ?_, ?_, ?_⟩ <;> exact pu_nei (by omega)
/-- the lattice's generators, and the inversion -/
def sy_L1 (τ : pm_H) (c mi : Int) : Prop := True → pt_Ls (τ 81) (τ 77 11) 12 = sy_id (sy_ln c) ++ if mi = 1 then [sy_I] else []
theorem sy_L1_0 {c mi : Int} (h : sy_AI σ) (hc : σ 77 11 = sy_ln c) (hm : mi = 0) (e1 : τ 81 = σ 81) (e2 : τ 77 11 = σ 77 11) : sy_L1 τ c mi := fun t => by
  rw [hm, if_neg (by decide), List.append_nil, e1, e2, h t, hc]
theorem sy_L1_1 {c mi N : Int} (h : sy_AI σ) (hc : σ 77 11 = sy_ln c) (hm : mi = 1) (hN : 0 ≤ N) (e : σ 77 11 = N) (e' : τ 77 11 = N + 1) (he : pm_er τ 81 0 (12 * N) (σ 81)) (hv : pt_m (τ 81) (12 * N) = sy_I) : sy_L1 τ c mi := fun t => by
  have a := h t
  rw [e] at a
  rw [pt_Ls_p hN e' he, hv, a, ← e, hc, hm, if_pos rfl]
theorem sy_L1_q {c mi : Int} (h : sy_L1 σ c mi) (e1 : τ 81 = σ 81) (e2 : τ 77 11 = σ 77 11) : sy_L1 τ c mi := fun t => by
  rw [e1, e2]
  exact h t
theorem sy_m_mi {n : Int} (h : pm_mi τ n) (hn : 9 ≤ n) : pt_m (τ 83) 0 = sy_I := (sy_m1 (f := fun k => -(pm_idf k)) (fun j j1 j2 => h j j1 j2 (by omega))).trans sy_m_mid
end SYR
/-! symbols: the class's heap on the way -/
section SYC
variable {T : Int → Int} {σ τ : pm_H} {s rot an ax mi n its k k' f p r : Int} {m : pc_M} {L L' : List pc_M}
/-- the class's own tables -/
def sy_St (σ : pm_H) : Prop := True → (pt_m (σ 112) 0 = pc_1 ∧ pt_m (σ 113) 0 = sy_I ∧ ∀ k : Int, 0 ≤ k → k < 72 → σ 114 k = sy_tbl.getD k.toNat 0)
theorem sy_St_eq (h : sy_St σ) (e1 : τ 112 = σ 112) (e2 : τ 113 = σ 113) (e3 : τ 114 = σ 114) : sy_St τ := fun t => by
  rw [e1, e2, e3]
  exact h t
theorem sy_St_1 (h : sy_St σ) (e : τ 112 = σ 112) : pt_m (τ 112) 0 = pc_1 := by
  rw [e]
  exact (h trivial).1
theorem sy_St_2 (h : sy_St σ) (e : τ 113 = σ 113) : pt_m (τ 113) 0 = sy_I := by
  rw [e]
  exact (h trivial).2.1
/-- the axis of a byte -/
def sy_ci (c : Int) : Int := if 120 ≤ c ∧ c ≤ 122 then c - 120 else if c = 39 then 3 else if c = 34 then 4 else 5
theorem sy_ci_v (c : Int) : (120 ≤ c ∧ c ≤ 122 ∧ sy_ci c = c - 120) ∨ (c = 39 ∧ sy_ci c = 3) ∨ (c = 34 ∧ sy_ci c = 4) ∨ (¬ (120 ≤ c ∧ c ≤ 122) ∧ ¬ (c = 39) ∧ ¬ (c = 34) ∧ sy_ci c = 5) := by
  unfold sy_ci
  (repeat' split) <;> omega
def sy_AC (τ : pm_H) : Prop := True → pt_Ls (τ 32) (τ 31 2) 9 = sy_id (τ 31 2)
theorem sy_AC_0 (h : τ 31 2 = 0) : sy_AC τ := fun _ => by
  rw [h]
  exact pt_Ls_0 rfl
theorem sy_AC_s {N : Int} {q : Nat} (h : sy_AC σ) (hN : 0 ≤ N) (e : σ 31 2 = N) (e' : τ 31 2 = N + 1) (he : pm_er τ 32 0 (9 * N) (σ 32)) (hm : pm_er τ 32 (9 * N) (9 * N + 9) (fun k => σ q (k - 9 * N))) (hq : pt_m (σ q) 0 = pc_1) : sy_AC τ := fun t => by
  have a := h t
  rw [e] at a
  rw [pt_Lc_p hN e' he, pt_m_g2 hm, hq, a, e', sy_id_s hN]
theorem sy_AC_eq (h : sy_AC σ) (e1 : τ 32 = σ 32) (e2 : τ 31 2 = σ 31 2) : sy_AC τ := fun t => by
  rw [e1, e2]
  exact h t
def sy_C1 (τ : pm_H) (c mi : Int) : Prop := True → pt_Ls (τ 32) (τ 31 2) 9 = sy_id (sy_ln c) ++ if mi = 1 then [sy_I] else []
theorem sy_C1_0 {c mi : Int} (h : sy_AC σ) (hc : σ 31 2 = sy_ln c) (hm : mi = 0) (e1 : τ 32 = σ 32) (e2 : τ 31 2 = σ 31 2) : sy_C1 τ c mi := fun t => by
  rw [hm, if_neg (by decide), List.append_nil, e1, e2, h t, hc]
theorem sy_C1_1 {c mi N : Int} {q : Nat} (h : sy_AC σ) (hc : σ 31 2 = sy_ln c) (hm : mi = 1) (hN : 0 ≤ N) (e : σ 31 2 = N) (e' : τ 31 2 = N + 1) (he : pm_er τ 32 0 (9 * N) (σ 32)) (hv : pm_er τ 32 (9 * N) (9 * N + 9) (fun k => σ q (k - 9 * N))) (hq : pt_m (σ q) 0 = sy_I) : sy_C1 τ c mi := fun t => by
  have a := h t
  rw [e] at a
  rw [pt_Lc_p hN e' he, pt_m_g2 hv, hq, a, ← e, hc, hm, if_pos rfl]
/-- the lattice was read -/
def sy_LP (T : Int → Int) (r k f p : Int) (L : List pc_M) : Prop := True → ((r = 1 ∧ sy_W T k 0 0 2 L) ∨ (r = 0 ∧ sy_RR T f p L))
theorem sy_LP_1 {c mi kk : Int} (hr : r = 1) (hk : (T (pt_sk T 0) = 45 ∧ mi = 1 ∧ k' = pt_sk T 0 + 1) ∨ (¬ (T (pt_sk T 0) = 45) ∧ mi = 0 ∧ k' = pt_sk T 0)) (hc : c = T k') (hl : c = 80 ∨ c = 65 ∨ c = 66 ∨ c = 67 ∨ c = 73 ∨ c = 70 ∨ c = 82) (hL : sy_C1 τ c mi) (e1 : L = pt_Ls (τ 32) (τ 31 2) 9) (hkk : kk = k' + 1) : sy_LP T r kk f p L := fun t => by
  refine Or.inl ⟨hr, ?_⟩
  exact sy_W_0 rfl hk hc hl (by rw [e1]; exact hL t) hkk rfl rfl rfl
theorem sy_LP_0 {c kk : Int} (hr : r = 0) (hk : (T (pt_sk T 0) = 45 ∧ k' = pt_sk T 0 + 1) ∨ (¬ (T (pt_sk T 0) = 45) ∧ k' = pt_sk T 0)) (hc : c = T k') (hl : ¬ (c = 80 ∨ c = 65 ∨ c = 66 ∨ c = 67 ∨ c = 73 ∨ c = 70 ∨ c = 82)) (hf : f = 1) (hp : p = k') : sy_LP T r kk f p L := fun _ => Or.inr ⟨hr, sy_RR_l rfl hk hc hl hf hp⟩
/-- the matrix in the making -/
theorem sy_kd_of {x1 x2 x4 : Int} (h1 : (1 ≤ x1 ∧ x1 ≤ 4) ∨ x1 = 6) (h : (x2 = 39 ∧ x4 = 5) ∨ (x2 = 34 ∧ x4 = 6) ∨ (x2 = 42 ∧ x4 = 7) ∨ (120 ≤ x2 ∧ x2 ≤ 122 ∧ ((x1 ≤ 4 ∧ x4 = x1 - 1) ∨ (x1 = 6 ∧ x4 = 4)))) : x4 = sy_kd x1 (sy_ci x2) := by
  have c := sy_ci_v x2
  unfold sy_kd
  (repeat' split) <;> omega
theorem sy_s3_of {x2 x5 x6 a : Int} (h : ((x2 = 39 ∨ x2 = 34) ∧ x5 = a) ∨ (x2 = 42 ∧ x5 = 42) ∨ (120 ≤ x2 ∧ x2 ≤ 122 ∧ x5 = x2)) (ha : (120 ≤ a ∧ a ≤ 122) ∨ a = 39 ∨ a = 34 ∨ a = 42) (h6 : (x5 = 120 ∧ x6 = 2) ∨ (x5 = 121 ∧ x6 = 1) ∨ (¬ (x5 = 120) ∧ ¬ (x5 = 121) ∧ x6 = 0)) : x6 = pm_s3 (sy_al (sy_ci a) (sy_ci x2)) := by
  have c := sy_ci_v x2
  have d := sy_ci_v a
  unfold sy_al pm_s3
  (repeat' split) <;> omega
def sy_sg (x : Int) : Int := if x = 1 then 0 else 1
def sy_MF (x1 x2 x3 a : Int) : Int → Int := sy_mf (sy_kd x1 (sy_ci x2)) (sy_al (sy_ci a) (sy_ci x2)) (sy_sg x3)
theorem sy_tb_rg (kd i : Int) (h1 : 0 ≤ kd ∧ kd ≤ 7) (h2 : 0 ≤ i ∧ i < 9) : -1 ≤ sy_b kd i ∧ sy_b kd i ≤ 1 := by
  have z : ∀ j : Nat, j < 72 → -1 ≤ sy_tbl.getD j 0 ∧ sy_tbl.getD j 0 ≤ 1 := by decide
  exact z (9 * kd + i).toNat (by omega)
theorem sy_set_v {x1 x2 x3 a x4 x6 x7 x8 i k : Int} (hs : sy_St σ) (e : τ 114 = σ 114) (h3 : x3 = 1 ∨ x3 = -1) (h4 : x4 = sy_kd x1 (sy_ci x2)) (h4r : 0 ≤ x4 ∧ x4 ≤ 7) (h6 : x6 = pm_s3 (sy_al (sy_ci a) (sy_ci x2))) (h6r : 0 ≤ x6 ∧ x6 ≤ 2) (h7 : 0 ≤ x7 ∧ x7 < 3) (h8 : 0 ≤ x8 ∧ x8 < 3) (hk : k = 3 * x7 + x8) (hi : i = x4 * 9 + (x7 + x6) % 3 * 3 + (x8 + x6) % 3) : w32 (x3 * τ 114 i) = sy_MF x1 x2 x3 a k := by
  have v : τ 114 i = sy_b x4 (3 * ((k / 3 + x6) % 3) + (k % 3 + x6) % 3) := by
    rw [e, (hs trivial).2.2 i (by omega) (by omega)]
    unfold sy_b
    congr 2
    omega
  have b := sy_tb_rg x4 (3 * ((k / 3 + x6) % 3) + (k % 3 + x6) % 3) h4r (by omega)
  unfold sy_MF sy_mf pm_ta sy_sg
  rw [← h4, ← h6]
  rcases h3 with h | h
  · subst h
    rw [if_pos rfl, if_pos rfl, Int.one_mul, v]
    exact w32_id (by omega)
  · subst h
    rw [if_neg (show ¬ ((-1 : Int) = 1) by decide), if_neg sy_n1, v]
    have q : (-1 : Int) * sy_b x4 (3 * ((k / 3 + x6) % 3) + (k % 3 + x6) % 3) = -(sy_b x4 (3 * ((k / 3 + x6) % 3) + (k % 3 + x6) % 3)) := by omega
    rw [q]
    exact w32_id (by omega)
theorem sy_MF_m {x1 x2 x3 a : Int} (h : pm_er τ 38 0 9 (sy_MF x1 x2 x3 a)) : pt_m (τ 38) 0 = sy_mx x1 (sy_ci x2) (sy_ci a) (sy_sg x3) := sy_m1 h
/-- a rotation, behind its axis -/
def sy_Q50 (T : Int → Int) (s rot an ax mi n x k f p : Int) : Prop := True → ((x = -2 ∧ 0 < f ∧ sy_rt T s rot an ax = (f, p, 0, 0, pt_0)) ∨ (¬ (x = -2) ∧ sy_rt T s rot an ax = sy_rC T ax mi n (sy_ci x) k))
theorem sy_Q50_x {x : Int} (h : sy_EB T s rot an ax mi n k) (hr : ((T k = 39 ∨ T k = 34) ∧ ¬ (n = 2)) ∨ (T k = 42 ∧ ¬ (n = 3))) (hx : x = -2) (hf : f = 6) (hp : p = k) : sy_Q50 T s rot an ax mi n x k' f p := fun t => by
  rcases sy_RB_w (kk := 0) (nn := 0) (ii := 0) (m := pt_0) h hr hf hp t with ⟨a, _⟩ | ⟨a, b⟩
  · omega
  · exact Or.inl ⟨hx, a, b⟩
theorem sy_Q50_a {x : Int} (h : sy_EB T s rot an ax mi n k) (hr : ¬ (((T k = 39 ∨ T k = 34) ∧ ¬ (n = 2)) ∨ (T k = 42 ∧ ¬ (n = 3)))) (hi : (120 ≤ T k ∧ T k ≤ 122) ∨ T k = 39 ∨ T k = 34 ∨ T k = 42) (hx : x = T k) (hk : k' = k + 1) : sy_Q50 T s rot an ax mi n x k' f p := fun t => by
  have c := sy_ci_v x
  exact Or.inr ⟨by omega, sy_EC_a h hr (by omega) hk t⟩
theorem sy_Q50_u {x : Int} (h : sy_EB T s rot an ax mi n k) (hr : ¬ (120 ≤ T k ∧ T k ≤ 122) ∧ ¬ (T k = 39) ∧ ¬ (T k = 34) ∧ ¬ (T k = 42)) (hi : (sy_us rot an n = 0 ∧ x = 120) ∨ (sy_us rot an n = 3 ∧ x = 39) ∨ (sy_us rot an n = 5 ∧ x = 42) ∨ (sy_us rot an n = 2 ∧ x = 122)) (hk : k' = k) : sy_Q50 T s rot an ax mi n x k' f p := fun t => by
  have c := sy_ci_v x
  exact Or.inr ⟨by omega, sy_EC_u h hr (by omega) hk t⟩
theorem sy_Q50_f {x kk nn ii : Int} (h : sy_Q50 T s rot an ax mi n x k f p) (hx : x = -2) : sy_RO T s rot an ax kk nn ii m f p := fun t => by
  rcases h t with ⟨_, a, b⟩ | ⟨a, _⟩
  · exact Or.inr ⟨a, b⟩
  · omega
theorem sy_Q50_c {x : Int} (h : sy_Q50 T s rot an ax mi n x k f p) (hx : ¬ (x = -2)) : sy_EC T s rot an ax mi n (sy_ci x) k := fun t => by
  rcases h t with ⟨a, _⟩ | ⟨_, b⟩
  · omega
  · exact b
theorem sy_RC_c {x kk nn ii kq f' p' x3 a : Int} (h : sy_EC T s rot an (sy_ci a) mi n (sy_ci x) k) (v : sy_MV T n (sy_ci x) k kq f p) (hf : f = 0) (hf' : f' = 0) (h1 : kk = kq) (h2 : nn = n) (h3 : ii = sy_ci x) (hm : m = sy_mx n (sy_ci x) (sy_ci a) (sy_sg x3)) (hg : (mi = 0 ∧ x3 = 1) ∨ (mi = 1 ∧ x3 = -1)) : sy_RO T s rot an (sy_ci a) kk nn ii m f' p' := by
  refine sy_RC_0 h v hf hf' h1 h2 h3 ?_
  rw [hm]
  have e : sy_sg x3 = mi := by
    unfold sy_sg
    split <;> omega
  rw [e]
/-- a number of the shift -/
def sy_TW (T : Int → Int) (k r k' : Int) : Prop := True → ((r = 1 ∧ sy_nb T (sy_k1 T k) = (0, k')) ∨ (r = 0 ∧ sy_nb T (sy_k1 T k) = (1, k')))
def sy_TK (T : Int → Int) (k k1 : Int) : Prop := True → sy_k1 T k = k1
theorem sy_TK_of (h : (T k = 45 ∧ k' = k + 1) ∨ (¬ (T k = 45) ∧ k' = k)) : sy_TK T k k' := fun _ => by
  rcases h with ⟨a, b⟩ | ⟨a, b⟩
  · exact (sy_k1_y a b).symm
  · exact (sy_k1_n a b).symm
theorem sy_TW_x {kk : Int} (h : sy_TK T k k') (hc : ¬ (48 ≤ T k' ∧ T k' ≤ 57)) (hr : r = 0) (hk : kk = k') : sy_TW T k r kk := fun t => by
  refine Or.inr ⟨hr, ?_⟩
  rw [h t, hk]
  unfold sy_nb
  rw [if_neg hc]
theorem sy_TW_1 {kk : Int} (h : sy_TK T k k') (hc : 48 ≤ T k' ∧ T k' ≤ 57) (h1 : ¬ (48 ≤ T (k' + 1) ∧ T (k' + 1) ≤ 57)) (hr : r = 1) (hk : kk = k' + 1) : sy_TW T k r kk := fun t => by
  refine Or.inl ⟨hr, ?_⟩
  rw [h t, hk]
  unfold sy_nb
  rw [if_pos hc, if_neg h1]
theorem sy_TW_2 {kk : Int} (h : sy_TK T k k') (hc : 48 ≤ T k' ∧ T k' ≤ 57) (h1 : 48 ≤ T (k' + 1) ∧ T (k' + 1) ≤ 57) (h2 : 10 * (T k' - 48) + (T (k' + 1) - 48) ≤ 11) (hr : r = 1) (hk : kk = k' + 2) : sy_TW T k r kk := fun t => by
  refine Or.inl ⟨hr, ?_⟩
  rw [h t, hk]
  unfold sy_nb
  rw [if_pos hc, if_pos h1, if_pos h2]
theorem sy_TW_g {kk : Int} (h : sy_TK T k k') (hc : 48 ≤ T k' ∧ T k' ≤ 57) (h1 : 48 ≤ T (k' + 1) ∧ T (k' + 1) ≤ 57) (h2 : ¬ (10 * (T k' - 48) + (T (k' + 1) - 48) ≤ 11)) (hr : r = 0) (hk : kk = k' + 1) : sy_TW T k r kk := fun t => by
  refine Or.inr ⟨hr, ?_⟩
  rw [h t, hk]
  unfold sy_nb
  rw [if_pos hc, if_pos h1, if_neg h2]
theorem sy_SI_t {k0 i i' : Int} (h : sy_SX T k0 i k) (v : sy_TW T k r k') (hr : ¬ (r = 0)) (hi : i' = i + 1) : sy_SI T k0 i' k' := fun t => by
  rcases v t with ⟨_, e⟩ | ⟨e, _⟩
  · rw [h t, hi]
    unfold sy_nx sy_nt
    rw [e, if_pos rfl]
  · omega
theorem sy_SF_t {k0 i : Int} (h : sy_SX T k0 i k) (v : sy_TW T k r k') (hr : r = 0) (hf : f = 1) (hp : p = k') : sy_SF T k0 f p := fun t => by
  rcases v t with ⟨e, _⟩ | ⟨_, e⟩
  · omega
  · refine Or.inr ⟨by omega, ?_⟩
    rw [h t, hf, hp]
    unfold sy_nx sy_nt
    rw [e, if_neg sy_n1]
/-- behind the shift -/
def sy_S5 (T : Int → Int) (k0 r k f p : Int) : Prop := True → ((r = 1 ∧ sy_S4 T k0 (pt_sk T k)) ∨ (r = 0 ∧ 0 < f ∧ sy_SF T k0 f p))
theorem sy_S5_0 {k0 kk : Int} (h : sy_SF T k0 f p) (hr : r = 0) (hf : 0 < f) : sy_S5 T k0 r kk f p := fun _ => Or.inr ⟨hr, hf, h⟩
theorem sy_S5_1 {k0 i kk : Int} (h : sy_SI T k0 i k) (hi : i = 3) (hc : T k = 41) (hr : r = 1) (hk : kk = k + 1) : sy_S5 T k0 r kk f p := fun _ => Or.inl ⟨hr, sy_S4_of h hi hc (by rw [hk])⟩
/-- ahead of a word: with or without a shift behind -/
def sy_G (T : Int → Int) (sh k rot an ax : Int) (L : List pc_M) : Prop := True → ((sh = 0 ∧ sy_W T k rot an ax L) ∨ (sh = 1 ∧ sy_all T = if T (pt_sk T k) = -1 then (0, -1, L) else (1, pt_sk T k, [])))
def sy_GV (T : Int → Int) (sh s rot an ax : Int) (L : List pc_M) : Prop := True → ((sh = 0 ∧ sy_V T s rot an ax L) ∨ (sh = 1 ∧ sy_all T = if T s = -1 then (0, -1, L) else (1, s, [])))
def sy_GP (T : Int → Int) (r sh k rot an ax f p : Int) (L : List pc_M) : Prop := True → ((r = 1 ∧ sy_G T sh k rot an ax L) ∨ (r = 0 ∧ sy_RR T f p L))
theorem sy_GV_of (h : sy_G T rot k an ax mi L) (hc : T k = -1 ∨ T k = 32) (hs : s = pt_sk T k) : sy_GV T rot s an ax mi L := fun t => by
  rcases h t with ⟨a, b⟩ | ⟨a, b⟩
  · exact Or.inl ⟨a, sy_V_of b hc hs rfl rfl rfl rfl⟩
  · subst hs
    exact Or.inr ⟨a, b⟩
theorem sy_GV_q {sh sh' s' rot' an' ax' : Int} (h : sy_GV T sh s rot an ax L) (h0 : sh' = sh) (h1 : s' = s) (h2 : rot' = rot) (h3 : an' = an) (h4 : ax' = ax) (h5 : L' = L) : sy_GV T sh' s' rot' an' ax' L' := by
  rw [h0, h1, h2, h3, h4, h5]
  exact h
theorem sy_GP_e {sh sh' kk rr aa xx : Int} (h : sy_GV T sh s rot an ax L) (hs : T s = -1) (hr : r = 0) (hf : f = 0) (hp : p = -1) (hL : L' = L) : sy_GP T r sh' kk rr aa xx f p L' := fun t => by
  refine Or.inr ⟨hr, ?_⟩
  rcases h t with ⟨a, b⟩ | ⟨a, b⟩
  · exact sy_V_e b hs hf hp hL
  · refine fun _ => Or.inl ⟨hf, hp, ?_⟩
    rw [b, if_pos hs, hL]
theorem sy_GP_n {sh sh' kk rr aa xx : Int} (h : sy_G T sh k rot an ax L) (hs : T k = -1) (hr : r = 0) (hf : f = 0) (hp : p = -1) (hL : L' = L) : sy_GP T r sh' kk rr aa xx f p L' := sy_GP_e (sy_GV_of h (Or.inl hs) (pt_sk_n (by omega)).symm) hs hr hf hp hL
theorem sy_GP_x {sh sh' kk rr aa xx : Int} (h : sy_G T sh k rot an ax L) (hc : ¬ (T k = -1) ∧ ¬ (T k = 32)) (hr : r = 0) (hf : f = 1) (hp : p = k) : sy_GP T r sh' kk rr aa xx f p L' := fun t => by
  refine Or.inr ⟨hr, ?_⟩
  rcases h t with ⟨a, b⟩ | ⟨a, b⟩
  · exact sy_W_x b hc hf hp
  · refine fun _ => Or.inr ⟨by omega, ?_⟩
    rw [b, pt_sk_n (by omega), if_neg hc.1, hf, hp]
theorem sy_GP_s {sh sh' kk rr aa xx : Int} (h : sy_GV T sh s rot an ax L) (hs : ¬ (T s = -1)) (hh : ¬ (sh = 0)) (hr : r = 0) (hf : f = 1) (hp : p = s) : sy_GP T r sh' kk rr aa xx f p L' := fun t => by
  refine Or.inr ⟨hr, ?_⟩
  rcases h t with ⟨a, b⟩ | ⟨a, b⟩
  · omega
  · refine fun _ => Or.inr ⟨by omega, ?_⟩
    rw [b, if_neg hs, hf, hp]
theorem sy_GV_0 {sh : Int} (h : sy_GV T sh s rot an ax L) (hh : sh = 0) : sy_V T s rot an ax L := by
  rcases h trivial with ⟨a, b⟩ | ⟨a, b⟩
  · exact b
  · omega
theorem sy_GP_y {sh sh' kk rr aa xx : Int} (h : sy_GV T sh s rot an ax L) (hh : sh = 0) (h1 : ¬ (T s = 45 ∨ (T s - 48 = 1 ∨ T s - 48 = 2 ∨ T s - 48 = 3 ∨ T s - 48 = 4 ∨ T s - 48 = 6))) (h4 : ¬ (T s = 40)) (h5 : ¬ (T s = -1)) (hr : r = 0) (hf : f = 1) (hp : p = s) : sy_GP T r sh' kk rr aa xx f p L' := fun _ => Or.inr ⟨hr, sy_V_y (sy_GV_0 h hh) h1 h4 h5 hf hp⟩
theorem sy_GP_8 {sh sh' kk rr aa xx : Int} (h : sy_GV T sh s rot an ax L) (hh : sh = 0) (h1 : T s = 45 ∨ (T s - 48 = 1 ∨ T s - 48 = 2 ∨ T s - 48 = 3 ∨ T s - 48 = 4 ∨ T s - 48 = 6)) (h4 : 4 ≤ rot) (hr : r = 0) (hf : f = 8) (hp : p = s) : sy_GP T r sh' kk rr aa xx f p L' := fun _ => Or.inr ⟨hr, sy_V_8 (sy_GV_0 h hh) h1 h4 hf hp⟩
theorem sy_GP_f {sh sh' kk rr aa xx k2 nn ii : Int} (h : sy_GV T sh s rot an ax L) (hh : sh = 0) (h1 : T s = 45 ∨ (T s - 48 = 1 ∨ T s - 48 = 2 ∨ T s - 48 = 3 ∨ T s - 48 = 4 ∨ T s - 48 = 6)) (h4 : ¬ (4 ≤ rot)) (v : sy_RO T s rot an ax k2 nn ii m f p) (hf : 0 < f) (hr : r = 0) : sy_GP T r sh' kk rr aa xx f p L' := fun _ => Or.inr ⟨hr, sy_V_f (sy_GV_0 h hh) h1 h4 v hf⟩
theorem sy_GP_r {sh sh' rr k2 nn ii : Int} (h : sy_GV T sh s rot an ax L) (hh : sh = 0) (h1 : T s = 45 ∨ (T s - 48 = 1 ∨ T s - 48 = 2 ∨ T s - 48 = 3 ∨ T s - 48 = 4 ∨ T s - 48 = 6)) (h4 : ¬ (4 ≤ rot)) (v : sy_RO T s rot an ax k2 nn ii m f p) (hf : f = 0) (h5 : rr = rot + 1) (hL : L' = L ++ [m]) (hr : r = 1) (hs' : sh' = 0) : sy_GP T r sh' k2 rr nn ii f p L' := fun _ => Or.inl ⟨hr, fun _ => Or.inl ⟨hs', sy_V_r (sy_GV_0 h hh) h1 h4 v hf h5 hL⟩⟩
theorem sy_GP_h {sh sh' kk rr aa xx k0 : Int} (h : sy_GV T sh s rot an ax L) (hh : sh = 0) (h1 : T s = 40) (v : sy_S5 T k0 r kk f p) (hk : k0 = s + 1) (hs' : r = 0 ∨ sh' = 1) (hL : r = 0 ∨ L' = L) : sy_GP T r sh' kk rr aa xx f p L' := fun t => by
  rcases v t with ⟨a, b⟩ | ⟨a, b, c⟩
  · refine Or.inl ⟨a, fun _ => Or.inr ⟨by omega, ?_⟩⟩
    have e := (sy_GV_0 h hh) t
    have z := b t
    subst hk
    rcases hL with w | w
    · omega
    rw [e, if_neg (by omega), if_pos h1, z, w]
    by_cases q : T (pt_sk T kk) = -1
    · rw [if_pos q, if_pos q, if_pos rfl]
    · rw [if_neg q, if_neg q, if_neg sy_n1]
  · exact Or.inr ⟨a, sy_V_s (sy_GV_0 h hh) h1 c hk (Or.inl b)⟩
theorem sy_GP_1 {sh sh' k2 rr aa xx : Int} (h : sy_GP T r sh k rot an ax f p L) (hr : ¬ (r = 0)) (h1 : sh' = sh) (h2 : k2 = k) (h3 : rr = rot) (h4 : aa = an) (h5 : xx = ax) (hL : L' = L) : sy_G T sh' k2 rr aa xx L' := by
  subst h1 h2 h3 h4 h5 hL
  rcases h trivial with ⟨_, a⟩ | ⟨a, _⟩
  · exact a
  · omega
theorem sy_GP_0 {sh : Int} (h : sy_GP T r sh k rot an ax f p L) (hr : r = 0) : sy_RR T f p L := by
  rcases h trivial with ⟨a, _⟩ | ⟨_, a⟩
  · omega
  · exact a
theorem sy_GP_l {sh rr aa xx : Int} (h : sy_LP T r k f p L) (h1 : sh = 0) (h3 : rr = 0) (h4 : aa = 0) (h5 : xx = 2) : sy_GP T r sh k rr aa xx f p L := fun t => by
  subst h3 h4 h5
  rcases h t with ⟨a, b⟩ | ⟨a, b⟩
  · exact Or.inl ⟨a, fun _ => Or.inl ⟨h1, b⟩⟩
  · exact Or.inr ⟨a, b⟩
theorem sy_RR_q {f' p' : Int} (h : sy_RR T f p L) (hf : f' = f) (hp : p' = p) (hL : L' = L) : sy_RR T f' p' L' := by
  rw [hf, hp, hL]
  exact h
theorem pt_Lc_y {N N' r : Int} (e : τ 32 = σ 32) (h : r = 0 ∨ N' = N) : r = 0 ∨ pt_Ls (τ 32) N' 9 = pt_Ls (σ 32) N 9 := by
  rcases h with h | h
  · exact Or.inl h
  · exact Or.inr (pt_Lc_k e h)
/-- the moves are read: what is wanting is the matrix -/
def sy_E67 (T : Int → Int) (s rot an ax mi n x k : Int) : Prop := True → sy_rt T s rot an ax = (0, k, n, sy_ci x, sy_mx n (sy_ci x) ax mi)
theorem sy_C67 {x : Int} (h : sy_Q50 T s rot an ax mi n x k f p) (v : sy_MV T n (sy_ci x) k k' r its) (hx : ¬ (x = -2) ∧ r = 0) : sy_E67 T s rot an ax mi n x k' := fun t => by
  have c := sy_Q50_c h hx.1 t
  rcases v t with ⟨_, e⟩ | ⟨e, _⟩
  · rw [c]
    unfold sy_rC
    rw [e, if_pos rfl]
  · omega
theorem sy_RO_67 {x a g kk nn ii N : Int} (h : sy_E67 T s rot an (sy_ci a) mi n x k) (hm : pm_er σ 38 0 9 (sy_MF n x g a)) (hv : pm_er τ 32 (9 * N) (9 * N + 9) (fun j => σ 38 (j - 9 * N))) (hg : (mi = 0 ∧ g = 1) ∨ (mi = 1 ∧ g = -1)) (hf : f = 0) (h1 : kk = k) (h2 : nn = n) (h3 : ii = sy_ci x) (hN : N = N) : sy_RO T s rot an (sy_ci a) kk nn ii (pt_m (τ 32) (9 * N)) f p := fun t => by
  refine Or.inl ⟨hf, ?_⟩
  rw [h t, h1, h2, h3, pt_m_g2 hv, sy_MF_m hm]
  have e : sy_sg g = mi := by
    unfold sy_sg
    split <;> omega
  rw [e]
end SYC
/-! how many matrices: the reference's products modulo 4294967296, the class's exact ones -/
section GR
def pg_RM (S : List pc_M) (N : Int) : Prop := True → ∃ a : Nat → pc_M, (∀ i j : Nat, i < j → (j : Int) < N → ¬ pc_cg (a i) (a j)) ∧ (∀ i : Nat, (i : Int) < N → ∃ x, pc_W S x ∧ pc_cg x (a i)) ∧ (N ≤ 48 → ∀ x, pc_W S x → ∃ i : Nat, (i : Int) < N ∧ pc_cg x (a i))
def pg_CM (S : List pc_M) (r M : Int) : Prop := True → ((r = 1 ∧ ∃ b : Nat → pc_M, (∀ i j : Nat, i < j → (j : Int) < M → b i ≠ b j) ∧ (∀ i : Nat, (i : Int) < M → pc_W S (b i) ∧ pc_le 999 (b i)) ∧ (∀ x, pc_W S x → ∃ i : Nat, (i : Int) < M ∧ x = b i)) ∨ (r = 0 ∧ ((∃ x, pc_W S x ∧ ¬ pc_le 999 x) ∨ ∃ b : Nat → pc_M, (∀ i j : Nat, i < j → j < 49 → b i ≠ b j) ∧ ∀ i : Nat, i < 49 → pc_W S (b i) ∧ pc_le 999 (b i))))
theorem pc_cg_symm {x y : pc_M} (h : pc_cg x y) : pc_cg y x := by
  unfold pc_cg at *
  exact h.symm
theorem pc_cg_trans {x y z : pc_M} (h : pc_cg x y) (k : pc_cg y z) : pc_cg x z := by
  unfold pc_cg at *
  exact h.trans k
theorem pg_lm {m n : Int} (h : m ≤ n) {x : pc_M} (hx : pc_le m x) : pc_le n x := by
  unfold pc_le at *
  omega
theorem pg_le {n m : Nat} (a b : Nat → pc_M) (ha : ∀ i j, i < j → j < n → ¬ pc_cg (a i) (a j)) (hb : ∀ i, i < n → ∃ k, k < m ∧ pc_cg (a i) (b k)) : n ≤ m := by
  refine Decidable.byContradiction fun hc => ?_
  have hf : ∀ i, ∃ k, i < n → k < m ∧ pc_cg (a i) (b k) := fun i => by
    by_cases h : i < n
    · obtain ⟨k, hk⟩ := hb i h
      exact ⟨k, fun _ => hk⟩
    · exact ⟨0, fun h' => absurd h' h⟩
  obtain ⟨i, j, hij, hj, e⟩ := pc_pig m (fun i => Classical.choose (hf i)) (fun i hi => (Classical.choose_spec (hf i) (by omega)).1)
  have h1 := (Classical.choose_spec (hf i) (by omega)).2
  have h2 := (Classical.choose_spec (hf j) (by omega)).2
  have e' : Classical.choose (hf i) = Classical.choose (hf j) := e
  rw [e'] at h1
  exact ha i j hij (by omega) (pc_cg_trans h1 (pc_cg_symm h2))
theorem pg_agree {S : List pc_M} {N r M : Int} (hS : ∀ s, s ∈ S → pc_le 1 s ∧ pc_U s) (R : pg_RM S N) (C : pg_CM S r M) (hN : 1 ≤ N ∧ N ≤ 49) (hM : 0 ≤ M ∧ M ≤ 48) : (r = 1 ∧ N = M) ∨ (r = 0 ∧ N = 49) := by
  obtain ⟨a, a1, a2, a3⟩ := R trivial
  rcases C trivial with ⟨hr, b, b1, b2, b3⟩ | ⟨hr, C⟩
  · refine Or.inl ⟨hr, ?_⟩
    have q1 : N.toNat ≤ M.toNat := pg_le a b (fun i j h h' => a1 i j h (by omega)) (fun i hi => by
      obtain ⟨x, hx, hc⟩ := a2 i (by omega)
      obtain ⟨k, hk, e⟩ := b3 x hx
      subst e
      exact ⟨k, by omega, pc_cg_symm hc⟩)
    have q2 : M.toNat ≤ N.toNat := pg_le b a (fun i j h h' hc => b1 i j h (by omega) (pc_cg_eq hc (pg_lm (by decide) (b2 i (by omega)).2) (pg_lm (by decide) (b2 j (by omega)).2))) (fun i hi => by
      obtain ⟨k, hk, hc⟩ := a3 (by omega) (b i) (b2 i (by omega)).1
      exact ⟨k, by omega, hc⟩)
    omega
  · refine Or.inr ⟨hr, Decidable.byContradiction fun hc => ?_⟩
    have h48 : N ≤ 48 := by omega
    have H : pc_H S := ⟨(List.range N.toNat).map a, by rw [List.length_map, List.length_range]; omega, fun x hx => by
      obtain ⟨i, hi, e⟩ := a3 h48 x hx
      exact ⟨a i, List.mem_map.mpr ⟨i, List.mem_range.mpr (by omega), rfl⟩, e⟩⟩
    rcases C with ⟨x, hx, hn⟩ | ⟨b, b1, b2⟩
    · exact hn (pc_CC hS H x hx)
    · have q : 49 ≤ N.toNat := pg_le b a (fun i j h h' hc => b1 i j h h' (pc_cg_eq hc (pg_lm (by decide) (b2 i (by omega)).2) (pg_lm (by decide) (b2 j h').2))) (fun i hi => by
        obtain ⟨k, hk, hc⟩ := a3 h48 (b i) (b2 i hi).1
        exact ⟨k, by omega, hc⟩)
      omega
theorem pg_mem {f : Int → Int} {n w : Int} {s : pc_M} : s ∈ pt_Ls f n w ↔ ∃ q : Int, 0 ≤ q ∧ q < n ∧ s = pt_m f (w * q) := by
  unfold pt_Ls
  rw [List.mem_map]
  constructor
  · rintro ⟨i, hi, e⟩
    exact ⟨i, by omega, by have := List.mem_range.mp hi; omega, e.symm⟩
  · rintro ⟨q, h1, h2, e⟩
    refine ⟨q.toNat, List.mem_range.mpr (by omega), ?_⟩
    rw [e, show ((q.toNat : Nat) : Int) = q by omega]
/-- every number wrapped -/
def pc_w (x : pc_M) : pc_M := (w32 x.1, w32 x.2.1, w32 x.2.2.1, w32 x.2.2.2.1, w32 x.2.2.2.2.1, w32 x.2.2.2.2.2.1, w32 x.2.2.2.2.2.2.1, w32 x.2.2.2.2.2.2.2.1, w32 x.2.2.2.2.2.2.2.2)
theorem w32_md (x : Int) : w32 x % 4294967296 = x % 4294967296 := by unfold w32; omega
theorem pc_w_cg (x : pc_M) : pc_cg (pc_w x) x := by
  unfold pc_cg pc_md pc_w
  simp only [w32_md]
def pg_r (x : pc_M) : Prop := True → pc_w x = x
theorem w32_w32 (x : Int) : w32 (w32 x) = w32 x := by unfold w32; omega
theorem pg_r_w (x : pc_M) : pg_r (pc_w x) := fun _ => by
  unfold pc_w
  simp only [w32_w32]
theorem w32_mm {x y : Int} (h : x % 4294967296 = y % 4294967296) : w32 x = w32 y := by unfold w32; omega
theorem pg_r_eq {x y : pc_M} (hx : pg_r x) (hy : pg_r y) (h : pc_cg x y) : x = y := by
  rw [← hx trivial, ← hy trivial]
  unfold pc_cg pc_md at h
  simp only [Prod.mk.injEq] at h
  unfold pc_w
  rw [w32_mm h.1, w32_mm h.2.1, w32_mm h.2.2.1, w32_mm h.2.2.2.1, w32_mm h.2.2.2.2.1, w32_mm h.2.2.2.2.2.1, w32_mm h.2.2.2.2.2.2.1, w32_mm h.2.2.2.2.2.2.2.1, w32_mm h.2.2.2.2.2.2.2.2]
theorem pg_af {τ : pm_H} {A B : Int → Int} {i j n : Int} {q : Nat} (h : pm_er τ q 0 n (pm_af A i B j)) (hn : 9 ≤ n) : pt_m (τ q) 0 = pc_w (pc_mul (pt_m A i) (pt_m B j)) := by
  have e : ∀ k : Int, 0 ≤ k → k < 9 → τ q k = pm_af A i B j k := fun k k1 k2 => h k k1 (by omega)
  unfold pt_m pc_w pc_mul
  simp only [Int.zero_add]
  have z (r c : Int) (hr : 0 ≤ r ∧ r < 3) (hc : 0 ≤ c ∧ c < 3) : τ q (3 * r + c) = w32 (A (i + 3 * r) * B (j + c) + A (i + 3 * r + 1) * B (j + 3 + c) + A (i + 3 * r + 2) * B (j + 6 + c)) := by
    rw [e _ (by omega) (by omega)]
    exact pm_af_m hr hc
  have z0 := z 0 0 (by decide) (by decide)
  have z1 := z 0 1 (by decide) (by decide)
  have z2 := z 0 2 (by decide) (by decide)
  have z3 := z 1 0 (by decide) (by decide)
  have z4 := z 1 1 (by decide) (by decide)
  have z5 := z 1 2 (by decide) (by decide)
  have z6 := z 2 0 (by decide) (by decide)
  have z7 := z 2 1 (by decide) (by decide)
  have z8 := z 2 2 (by decide) (by decide)
  have f3 : i + 3 + 1 = i + 4 := by omega
  have f4 : i + 3 + 2 = i + 5 := by omega
  have f5 : i + 6 + 1 = i + 7 := by omega
  have f6 : i + 6 + 2 = i + 8 := by omega
  have g1 : j + 3 + 1 = j + 4 := by omega
  have g2 : j + 3 + 2 = j + 5 := by omega
  have g3 : j + 6 + 1 = j + 7 := by omega
  have g4 : j + 6 + 2 = j + 8 := by omega
  simp only [Int.reduceMul, Int.reduceAdd, Int.add_zero, Int.mul_zero, f3, f4, f5, f6, g1, g2, g3, g4] at z0 z1 z2 z3 z4 z5 z6 z7 z8
  rw [z0, z1, z2, z3, z4, z5, z6, z7, z8]
/-- the reference's search: N matrices, all products of those ahead of k, of k with those ahead of j -/
def pg_N (G : Int → Int) (n : Int) (F : Int → Int) (N k j : Int) : Prop := True → (pt_m F (12 * 0) = pc_1 ∧ 0 < N ∧ (∀ a b : Int, 0 ≤ a → a < b → b < N → pt_m F (12 * a) ≠ pt_m F (12 * b)) ∧ (∀ a : Int, 0 ≤ a → a < N → pg_r (pt_m F (12 * a)) ∧ ∃ x, pc_W (pt_Ls G n 12) x ∧ pc_cg x (pt_m F (12 * a))) ∧ (∀ a q : Int, 0 ≤ a → 0 ≤ q → q < n → (a < k ∨ (a = k ∧ q < j)) → ∃ b : Int, 0 ≤ b ∧ b < N ∧ pc_cg (pc_mul (pt_m G (12 * q)) (pt_m F (12 * a))) (pt_m F (12 * b))))
variable {G F F' : Int → Int} {n N N' k k' j j' : Int}
theorem pg_N_q (h : pg_N G n F N k j) (e1 : F' = F) (e2 : N' = N) (e3 : k' = k) (e4 : j' = j) : pg_N G n F' N' k' j' := by
  rw [e1, e2, e3, e4]
  exact h
theorem pg_id12 {τ : pm_H} (h : pm_er τ 82 0 12 pm_id12) : pt_m (τ 82) (12 * 0) = pc_1 := by
  unfold pt_m
  simp only [Int.mul_zero, Int.zero_add]
  rw [h 0 (by omega) (by omega), h 1 (by omega) (by omega), h 2 (by omega) (by omega), h 3 (by omega) (by omega), h 4 (by omega) (by omega), h 5 (by omega) (by omega), h 6 (by omega) (by omega), h 7 (by omega) (by omega), h 8 (by omega) (by omega)]
  rfl
theorem pg_N_0 {τ : pm_H} (h : pm_er τ 82 0 12 pm_id12) (hN : N = 1) (hk : k = 0) (hj : j = 0) : pg_N G n (τ 82) N k j := fun _ => by
  subst hN hk hj
  have e := pg_id12 h
  refine ⟨e, by decide, fun a b h1 h2 h3 => by omega, fun a h1 h2 => ?_, fun a q h1 h2 h3 h4 => by omega⟩
  have ea : a = 0 := by omega
  subst ea
  rw [e]
  exact ⟨fun _ => rfl, pc_1, pc_W_1 _, pc_cg_refl _⟩
theorem pg_N_h {b : Int} {m : pc_M} (h : pg_N G n F N k j) (hk : 0 ≤ k) (hm : m = pc_w (pc_mul (pt_m G (12 * j)) (pt_m F (12 * k)))) (hb : 0 ≤ b ∧ b < N) (e : pt_m F (12 * b) = m) (hj : j' = j + 1) : pg_N G n F N k j' := fun t => by
  subst hj
  obtain ⟨h1, h2, h3, h4, h5⟩ := h t
  refine ⟨h1, h2, h3, h4, fun a q a1 a2 a3 a4 => ?_⟩
  by_cases c : a = k ∧ q = j
  · refine ⟨b, hb.1, hb.2, ?_⟩
    rw [c.1, c.2, e, hm]
    exact pc_cg_symm (pc_w_cg _)
  · exact h5 a q a1 a2 a3 (by omega)
theorem pg_N_p {m : pc_M} (h : pg_N G n F N k j) (hk : 0 ≤ k ∧ k < N) (hjn : 0 ≤ j ∧ j < n) (hm : m = pc_w (pc_mul (pt_m G (12 * j)) (pt_m F (12 * k)))) (hn : ∀ b : Int, 0 ≤ b → b < N → pt_m F (12 * b) ≠ m) (hF : ∀ i : Int, 0 ≤ i → i < 12 * N → F' i = F i) (e : pt_m F' (12 * N) = m) (hN : N' = N + 1) (hj : j' = j + 1) : pg_N G n F' N' k j' := fun t => by
  subst hj hN
  obtain ⟨h1, h2, h3, h4, h5⟩ := h t
  have q : ∀ a : Int, 0 ≤ a → a < N → pt_m F' (12 * a) = pt_m F (12 * a) := fun a a1 a2 => by
    unfold pt_m
    rw [hF _ (by omega) (by omega), hF (12 * a + 1) (by omega) (by omega), hF (12 * a + 2) (by omega) (by omega), hF (12 * a + 3) (by omega) (by omega), hF (12 * a + 4) (by omega) (by omega), hF (12 * a + 5) (by omega) (by omega), hF (12 * a + 6) (by omega) (by omega), hF (12 * a + 7) (by omega) (by omega), hF (12 * a + 8) (by omega) (by omega)]
  refine ⟨by rw [q 0 (by omega) (by omega)]; exact h1, by omega, fun a b a1 a2 a3 => ?_, fun a a1 a2 => ?_, fun a r a1 a2 a3 a4 => ?_⟩
  · by_cases c : b = N
    · rw [c, e, q a a1 (by omega)]
      exact hn a a1 (by omega)
    · rw [q a a1 (by omega), q b (by omega) (by omega)]
      exact h3 a b a1 a2 (by omega)
  · by_cases c : a = N
    · rw [c, e, hm]
      obtain ⟨_, x, hx, hc⟩ := h4 k hk.1 hk.2
      exact ⟨pg_r_w _, pc_mul (pt_m G (12 * j)) x, pc_W_cons (pg_mem.mpr ⟨j, hjn.1, hjn.2, rfl⟩) hx, pc_cg_trans (pc_cg_mul (pc_cg_refl _) hc) (pc_cg_symm (pc_w_cg _))⟩
    · rw [q a a1 (by omega)]
      exact h4 a a1 (by omega)
  · by_cases c : a = k ∧ r = j
    · refine ⟨N, by omega, by omega, ?_⟩
      rw [c.1, c.2, e, hm, q k hk.1 hk.2]
      exact pc_cg_symm (pc_w_cg _)
    · obtain ⟨b, b1, b2, b3⟩ := h5 a r a1 a2 a3 (by omega)
      refine ⟨b, b1, by omega, ?_⟩
      rw [q b b1 b2, q a a1 (by omega)]
      exact b3
theorem pg_N_k (h : pg_N G n F N k j) (hj : n ≤ j) (hk : k' = k + 1) (hj' : j' = 0) : pg_N G n F N k' j' := fun t => by
  subst hk hj'
  obtain ⟨h1, h2, h3, h4, h5⟩ := h t
  exact ⟨h1, h2, h3, h4, fun a q a1 a2 a3 a4 => h5 a q a1 a2 a3 (by omega)⟩
theorem pg_N_b (h : pg_N G n F N k j) (hc : N ≤ 48 → N ≤ k) : pg_RM (pt_Ls G n 12) N := fun t => by
  obtain ⟨h1, h2, h3, h4, h5⟩ := h t
  refine ⟨fun i => pt_m F (12 * (i : Int)), fun i j hij hj hcg => ?_, fun i hi => (h4 i (by omega) hi).2, fun h48 x hx => ?_⟩
  · exact h3 i j (by omega) (by omega) hj (pg_r_eq (h4 i (by omega) (by omega)).1 (h4 j (by omega) hj).1 hcg)
  · refine pc_W_ind (Q := fun x => ∃ i : Nat, (i : Int) < N ∧ pc_cg x (pt_m F (12 * (i : Int)))) ⟨0, by omega, ?_⟩ ?_ hx
    · show pc_cg pc_1 (pt_m F (12 * 0))
      rw [h1]
      exact pc_cg_refl _
    · rintro s hs y _ ⟨i, hi, hc'⟩
      obtain ⟨q, q1, q2, e⟩ := pg_mem.mp hs
      obtain ⟨b, b1, b2, b3⟩ := h5 i q (by omega) q1 q2 (Or.inl (by have := hc h48; omega))
      refine ⟨b.toNat, by omega, ?_⟩
      rw [show ((b.toNat : Nat) : Int) = b by omega, e]
      exact pc_cg_trans (pc_cg_mul (pc_cg_refl _) hc') b3
def pg_K (G : Int → Int) (n : Int) (F : Int → Int) (N k : Int) : Prop := True → ((N = 49 ∧ pg_RM (pt_Ls G n 12) N) ∨ pg_N G n F N k 0)
theorem pg_K_n (h : pg_N G n F N k j) (hj : j = 0) : pg_K G n F N k := fun _ => by
  subst hj
  exact Or.inr h
theorem pg_K_49 (h : pg_N G n F N k j) (hN : N = 49) : pg_K G n F N k' := fun _ => Or.inl ⟨hN, pg_N_b h (fun q => by omega)⟩
theorem pg_K_e (h : pg_K G n F N k) (hc : 49 ≤ N ∨ N ≤ k) : pg_RM (pt_Ls G n 12) N := by
  rcases h trivial with ⟨_, a⟩ | a
  · exact a
  · exact pg_N_b a (fun q => by omega)
theorem pg_K_g (h : pg_K G n F N k) (hN : N < 49) (hj : j = 0) : pg_N G n F N k j := by
  subst hj
  rcases h trivial with ⟨a, _⟩ | a
  · omega
  · exact a
def pg_G (τ : pm_H) (G : Int → Int) (F : Int → Int) (k j : Int) : Prop := True → pt_m (τ 85) 0 = pc_w (pc_mul (pt_m G (12 * j)) (pt_m F (12 * k)))
theorem pg_G_0 {τ : pm_H} (h : pm_er τ 85 0 12 (pm_af G (12 * j) F (12 * k))) : pg_G τ G F k j := fun _ => pg_af h (by decide)
theorem pg_G_u {τ : pm_H} {i v : Int} (h : pg_G τ G F k j) (hi : 9 ≤ i) : pg_G (pm_up τ 85 i v) G F k j := fun t => by
  rw [← h t]
  unfold pt_m
  rw [pu_nei (by omega), pu_nei (by omega), pu_nei (by omega), pu_nei (by omega), pu_nei (by omega), pu_nei (by omega), pu_nei (by omega), pu_nei (by omega), pu_nei (by omega)]
theorem pg_sm {σ : pm_H} {b : Int} (h : pm_sm σ b 9) : pt_m (σ 82) (12 * b) = pt_m (σ 85) 0 := by
  unfold pt_m
  have e0 := h 0 (by omega) (by omega)
  rw [Int.add_zero] at e0
  rw [e0, h 1 (by omega) (by omega), h 2 (by omega) (by omega), h 3 (by omega) (by omega), h 4 (by omega) (by omega), h 5 (by omega) (by omega), h 6 (by omega) (by omega), h 7 (by omega) (by omega), h 8 (by omega) (by omega)]
  simp only [Int.zero_add]
theorem pg_ms {σ : pm_H} {b : Int} (h : pt_m (σ 82) (12 * b) = pt_m (σ 85) 0) : pm_sm σ b 9 := by
  unfold pt_m at h
  simp only [Prod.mk.injEq, Int.zero_add] at h
  obtain ⟨a0, a1, a2, a3, a4, a5, a6, a7, a8⟩ := h
  intro i i1 i2
  rcases (show i = 0 ∨ i = 1 ∨ i = 2 ∨ i = 3 ∨ i = 4 ∨ i = 5 ∨ i = 6 ∨ i = 7 ∨ i = 8 by omega) with e | e | e | e | e | e | e | e | e <;> subst e
  · rw [Int.add_zero]; exact a0
  · exact a1
  · exact a2
  · exact a3
  · exact a4
  · exact a5
  · exact a6
  · exact a7
  · exact a8
theorem pg_has {σ : pm_H} (h : pg_N G n (σ 82) N k j) (hk : 0 ≤ k) (g : pg_G σ G (σ 82) k j) (hs : ∃ b : Int, 0 ≤ b ∧ b < N ∧ pm_sm σ b 9) (hj : j' = j + 1) : pg_N G n (σ 82) N k j' := by
  obtain ⟨b, b1, b2, b3⟩ := hs
  exact pg_N_h h hk (g trivial) ⟨b1, b2⟩ (pg_sm b3) hj
theorem pg_put {σ τ : pm_H} (h : pg_N G n (σ 82) N k j) (hk : 0 ≤ k ∧ k < N) (hjn : 0 ≤ j ∧ j < n) (g : pg_G σ G (σ 82) k j) (hs : pm_ns σ N 9) (h1 : pm_er τ 82 0 (12 * N) (σ 82)) (h2 : pm_er τ 82 (12 * N) (12 * N + 12) (fun i => σ 85 (i - 12 * N))) (hN : N' = N + 1) (hj : j' = j + 1) : pg_N G n (τ 82) N' k j' :=
  pg_N_p h hk hjn (g trivial) (fun b b1 b2 e => hs b b1 b2 (pg_ms e)) (fun i i1 i2 => h1 i i1 i2) (pt_m_g2 (fun i i1 i2 => h2 i i1 (by omega))) hN hj
end GR
/-! the class's search for matrices, exact -/
section GC
theorem pg_col {A B : Int → Int} {i j r c k x y z j0 j1 j2 : Int} (hr : 0 ≤ r ∧ r < 3) (hc : 0 ≤ c ∧ c < 3) (hk : k = 3 * r + c) (hx : x = A (i + 3 * r)) (hy : y = A (i + 3 * r + 1)) (hz : z = A (i + 3 * r + 2)) (e0 : j0 = j + c) (e1 : j1 = j + 3 + c) (e2 : j2 = j + 6 + c) : w32 (B j0 * x + B j1 * y + B j2 * z) = pm_af A i B j k := by
  rw [hk, pm_af_m hr hc, hx, hy, hz, e0, e1, e2, Int.mul_comm (B (j + c)), Int.mul_comm (B (j + 3 + c)), Int.mul_comm (B (j + 6 + c))]
theorem pg_k1 {σ : pm_H} {a : Nat} {n n' : Int} (e : n' = n) : pm_er (pm_cp σ a 0 7 n 9) 7 0 n' (σ 7) := fun k h1 h2 => by
  unfold pm_cp
  rw [if_neg (by omega)]
theorem pg_k2 {σ : pm_H} {a : Nat} {n n' n9 : Int} (e : n' = n) (e9 : n9 = n' + 9) : pm_er (pm_cp σ a 0 7 n 9) 7 n' n9 (fun k => σ a (k - n')) := fun k h1 h2 => by
  subst e e9
  unfold pm_cp
  rw [if_pos ⟨rfl, h1, h2⟩]
  show σ a (0 + (k - n')) = σ a (k - n')
  rw [Int.zero_add]
def pg_MD (σ : pm_H) (r : Int) : Prop := True → ((r = 1 ∧ pc_le 999 (pt_m (σ 12) 0)) ∨ (r = 0 ∧ ¬ pc_le 999 (pt_m (σ 12) 0)))
theorem pg_MD_1 {σ : pm_H} {r x : Int} (h : pm_rg σ 12 0 x (-999) 999) (hx : 9 ≤ x) (hr : r = 1) : pg_MD σ r := fun _ => by
  refine Or.inl ⟨hr, ?_⟩
  unfold pc_le pt_m
  simp only [Int.zero_add]
  exact ⟨h 0 (by omega) (by omega), h 1 (by omega) (by omega), h 2 (by omega) (by omega), h 3 (by omega) (by omega), h 4 (by omega) (by omega), h 5 (by omega) (by omega), h 6 (by omega) (by omega), h 7 (by omega) (by omega), h 8 (by omega) (by omega)⟩
theorem pg_MD_0 {σ : pm_H} {r x : Int} (h : ¬ (-999 ≤ σ 12 x ∧ σ 12 x ≤ 999)) (hx : 0 ≤ x ∧ x < 9) (hr : r = 0) : pg_MD σ r := fun _ => by
  refine Or.inr ⟨hr, fun z => ?_⟩
  unfold pc_le pt_m at z
  simp only [Int.zero_add] at z
  obtain ⟨a0, a1, a2, a3, a4, a5, a6, a7, a8⟩ := z
  rcases (show x = 0 ∨ x = 1 ∨ x = 2 ∨ x = 3 ∨ x = 4 ∨ x = 5 ∨ x = 6 ∨ x = 7 ∨ x = 8 by omega) with e | e | e | e | e | e | e | e | e <;> subst e <;> contradiction
/-- so many numbers are alike -/
def pg_E (σ : pm_H) (i j n : Int) : Prop := True → ∀ k : Int, 0 ≤ k → k < n → σ 7 (i + k) = σ 12 (j + k)
theorem pg_E_0 {σ : pm_H} {i j n : Int} (h : n = 0) : pg_E σ i j n := fun _ k k1 k2 => by omega
theorem pg_E_s {σ : pm_H} {i j n n' : Int} (h : pg_E σ i j n) (e : σ 7 (i + n) = σ 12 (j + n)) (hn : n' = n + 1) : pg_E σ i j n' := fun t k k1 k2 => by
  subst hn
  by_cases c : k = n
  · subst c
    exact e
  · exact h t k k1 (by omega)
def pg_OD (σ : pm_H) (i j r : Int) : Prop := True → ((r = 0 ∧ pt_m (σ 7) i = pt_m (σ 12) j) ∨ (¬ (r = 0) ∧ pt_m (σ 7) i ≠ pt_m (σ 12) j))
theorem pg_OD_0 {σ : pm_H} {i j r n : Int} (h : pg_E σ i j n) (hn : 9 ≤ n) (hr : r = 0) : pg_OD σ i j r := fun t => by
  refine Or.inl ⟨hr, ?_⟩
  unfold pt_m
  have e0 := h t 0 (by omega) (by omega)
  rw [Int.add_zero, Int.add_zero] at e0
  rw [e0, h t 1 (by omega) (by omega), h t 2 (by omega) (by omega), h t 3 (by omega) (by omega), h t 4 (by omega) (by omega), h t 5 (by omega) (by omega), h t 6 (by omega) (by omega), h t 7 (by omega) (by omega), h t 8 (by omega) (by omega)]
theorem pg_OD_n {σ : pm_H} {i j r x : Int} (h : ¬ (σ 7 (i + x) = σ 12 (j + x))) (hx : 0 ≤ x ∧ x < 9) (hr : ¬ (r = 0)) : pg_OD σ i j r := fun _ => by
  refine Or.inr ⟨hr, fun z => h ?_⟩
  unfold pt_m at z
  simp only [Prod.mk.injEq] at z
  obtain ⟨a0, a1, a2, a3, a4, a5, a6, a7, a8⟩ := z
  rcases (show x = 0 ∨ x = 1 ∨ x = 2 ∨ x = 3 ∨ x = 4 ∨ x = 5 ∨ x = 6 ∨ x = 7 ∨ x = 8 by omega) with e | e | e | e | e | e | e | e | e <;> subst e
  · rw [Int.add_zero, Int.add_zero]; exact a0
  · exact a1
  · exact a2
  · exact a3
  · exact a4
  · exact a5
  · exact a6
  · exact a7
  · exact a8
def pg_NN (σ : pm_H) (n : Int) : Prop := True → ∀ i : Int, 0 ≤ i → i < n → pt_m (σ 7) (9 * i) ≠ pt_m (σ 12) 0
theorem pg_NN_0 {σ : pm_H} {n : Int} (h : n = 0) : pg_NN σ n := fun _ i i1 i2 => by omega
theorem pg_NN_s {σ : pm_H} {n n' i r : Int} (h : pg_NN σ n) (v : pg_OD σ i 0 r) (hr : ¬ (r = 0)) (hi : i = 9 * n) (hn : n' = n + 1) : pg_NN σ n' := fun t k k1 k2 => by
  subst hi hn
  by_cases c : k = n
  · subst c
    rcases v t with ⟨a, _⟩ | ⟨_, a⟩
    · omega
    · exact a
  · exact h t k k1 (by omega)
def pg_NO (σ : pm_H) (M r : Int) : Prop := True → ((r = -1 ∧ pg_NN σ M) ∨ (0 ≤ r ∧ r < M ∧ pt_m (σ 7) (9 * r) = pt_m (σ 12) 0))
theorem pg_NO_n {σ : pm_H} {M n r : Int} (h : pg_NN σ n) (hn : M ≤ n) (hr : r = -1) : pg_NO σ M r := fun _ => Or.inl ⟨hr, fun t i i1 i2 => h t i i1 (by omega)⟩
theorem pg_NO_y {σ : pm_H} {M i r z : Int} (v : pg_OD σ i 0 z) (hz : z = 0) (hi : i = 9 * r) (hr : 0 ≤ r ∧ r < M) : pg_NO σ M r := fun t => by
  subst hi
  rcases v t with ⟨_, a⟩ | ⟨a, _⟩
  · exact Or.inr ⟨hr.1, hr.2, a⟩
  · omega
def pg_g1 (G : Int → Int) (n : Int) : Prop := True → ∀ q : Int, 0 ≤ q → q < n → pc_le 1 (pt_m G (9 * q))
/-- M matrices: all products of those ahead of k, of k with the generators ahead of j -/
def pg_X (G : Int → Int) (n : Int) (F : Int → Int) (M k j : Int) : Prop := True → (pt_m F (9 * 0) = pc_1 ∧ 0 < M ∧ (∀ a b : Int, 0 ≤ a → a < b → b < M → pt_m F (9 * a) ≠ pt_m F (9 * b)) ∧ (∀ a : Int, 0 ≤ a → a < M → pc_W (pt_Ls G n 9) (pt_m F (9 * a)) ∧ pc_le 999 (pt_m F (9 * a))) ∧ (∀ a q : Int, 0 ≤ a → 0 ≤ q → q < n → (a < k ∨ (a = k ∧ q < j)) → ∃ b : Int, 0 ≤ b ∧ b < M ∧ pc_mul (pt_m F (9 * a)) (pt_m G (9 * q)) = pt_m F (9 * b)))
variable {G F F' : Int → Int} {n M M' k k' j j' r : Int}
theorem pg_X_q (h : pg_X G n F M k j) (e1 : F' = F) (e2 : M' = M) (e3 : k' = k) (e4 : j' = j) : pg_X G n F' M' k' j' := by
  rw [e1, e2, e3, e4]
  exact h
theorem pg_X_0 (h : pt_m F (9 * 0) = pc_1) (hM : M = 1) (hk : k = 0) (hj : j = 0) : pg_X G n F M k j := fun _ => by
  subst hM hk hj
  refine ⟨h, by decide, fun a b h1 h2 h3 => by omega, fun a h1 h2 => ?_, fun a q h1 h2 h3 h4 => by omega⟩
  have ea : a = 0 := by omega
  subst ea
  rw [h]
  exact ⟨pc_W_1 _, by unfold pc_le; decide⟩
/-- the product in 'work' -/
def pg_P (τ : pm_H) (G F : Int → Int) (k j : Int) : Prop := True → pt_m (τ 12) 0 = pc_mul (pt_m F (9 * k)) (pt_m G (9 * j))
theorem pc_w_le {x y : pc_M} (hx : pc_le 999 x) (hy : pc_le 1 y) : pc_w (pc_mul x y) = pc_mul x y := by
  obtain ⟨a1, a2, a3, a4, a5, a6, a7, a8, a9⟩ := x
  obtain ⟨b1, b2, b3, b4, b5, b6, b7, b8, b9⟩ := y
  simp only [pc_le] at hx hy
  obtain ⟨x1, x2, x3, x4, x5, x6, x7, x8, x9⟩ := hx
  obtain ⟨y1, y2, y3, y4, y5, y6, y7, y8, y9⟩ := hy
  have z : ∀ a b c d e f : Int, (-999 ≤ a ∧ a ≤ 999) → (-999 ≤ b ∧ b ≤ 999) → (-999 ≤ c ∧ c ≤ 999) → (-1 ≤ d ∧ d ≤ 1) → (-1 ≤ e ∧ e ≤ 1) → (-1 ≤ f ∧ f ≤ 1) → w32 (a * d + b * e + c * f) = a * d + b * e + c * f := fun a b c d e f ha hb hc hd he hf => by
    have p := mul_ab (A := 999) (B := 1) ha hd
    have q := mul_ab (A := 999) (B := 1) hb he
    have s := mul_ab (A := 999) (B := 1) hc hf
    exact w32_id (by omega)
  simp only [pc_w, pc_mul, Prod.mk.injEq]
  exact ⟨z _ _ _ _ _ _ x1 x2 x3 y1 y4 y7, z _ _ _ _ _ _ x1 x2 x3 y2 y5 y8, z _ _ _ _ _ _ x1 x2 x3 y3 y6 y9, z _ _ _ _ _ _ x4 x5 x6 y1 y4 y7, z _ _ _ _ _ _ x4 x5 x6 y2 y5 y8, z _ _ _ _ _ _ x4 x5 x6 y3 y6 y9, z _ _ _ _ _ _ x7 x8 x9 y1 y4 y7, z _ _ _ _ _ _ x7 x8 x9 y2 y5 y8, z _ _ _ _ _ _ x7 x8 x9 y3 y6 y9⟩
theorem pg_P_of {τ : pm_H} {i i' : Int} (h : pm_er τ 12 0 9 (pm_af F i G i')) (hi : i = 9 * k) (hi' : i' = 9 * j) (x : pg_X G n F M k j) (g : pg_g1 G n) (hk : 0 ≤ k ∧ k < M) (hj : 0 ≤ j ∧ j < n) : pg_P τ G F k j := fun t => by
  subst hi hi'
  rw [pg_af h (by decide)]
  exact pc_w_le ((x t).2.2.2.1 k hk.1 hk.2).2 (g t j hj.1 hj.2)
theorem pg_P_q {σ τ : pm_H} (h : pg_P σ G F k j) (e : τ 12 = σ 12) (e2 : F' = F) : pg_P τ G F' k j := fun t => by
  rw [e, e2]
  exact h t
theorem pg_X_h {σ : pm_H} {b : Int} (h : pg_X G n (σ 7) M k j) (g : pg_P σ G (σ 7) k j) (v : pg_NO σ M b) (hb : ¬ (b = -1)) (hj : j' = j + 1) : pg_X G n (σ 7) M k j' := fun t => by
  subst hj
  obtain ⟨h1, h2, h3, h4, h5⟩ := h t
  refine ⟨h1, h2, h3, h4, fun a q a1 a2 a3 a4 => ?_⟩
  by_cases c : a = k ∧ q = j
  · rcases v t with ⟨e, _⟩ | ⟨b1, b2, e⟩
    · omega
    · refine ⟨b, b1, b2, ?_⟩
      rw [c.1, c.2, e, g t]
  · exact h5 a q a1 a2 a3 (by omega)
theorem pg_X_W {σ : pm_H} (h : pg_X G n (σ 7) M k j) (g : pg_P σ G (σ 7) k j) (hk : 0 ≤ k ∧ k < M) (hjn : 0 ≤ j ∧ j < n) : pc_W (pt_Ls G n 9) (pt_m (σ 12) 0) := by
  rw [g trivial]
  exact pc_W_mul ((h trivial).2.2.2.1 k hk.1 hk.2).1 (pc_W_mem (pg_mem.mpr ⟨j, hjn.1, hjn.2, rfl⟩))
theorem pg_X_p {σ τ : pm_H} {b y : Int} (h : pg_X G n (σ 7) M k j) (hk : 0 ≤ k ∧ k < M) (hjn : 0 ≤ j ∧ j < n) (g : pg_P σ G (σ 7) k j) (v : pg_NO σ M b) (hb : b = -1) (m : pg_MD σ y) (hy : ¬ (y = 0)) (hF : pm_er τ 7 0 (9 * M) (σ 7)) (e : pm_er τ 7 (9 * M) (9 * M + 9) (fun i => σ 12 (i - 9 * M))) (hM : M' = M + 1) (hj : j' = j + 1) : pg_X G n (τ 7) M' k j' := fun t => by
  have w := pg_X_W h g hk hjn
  subst hj hM
  obtain ⟨h1, h2, h3, h4, h5⟩ := h t
  have e' := pt_m_g2 e
  have md : pc_le 999 (pt_m (σ 12) 0) := by
    rcases m t with ⟨_, a⟩ | ⟨a, _⟩
    · exact a
    · omega
  have nn : pg_NN σ M := by
    rcases v t with ⟨_, a⟩ | ⟨a, _⟩
    · exact a
    · omega
  have q : ∀ a : Int, 0 ≤ a → a < M → pt_m (τ 7) (9 * a) = pt_m (σ 7) (9 * a) := fun a a1 a2 => by
    unfold pt_m
    rw [hF _ (by omega) (by omega), hF (9 * a + 1) (by omega) (by omega), hF (9 * a + 2) (by omega) (by omega), hF (9 * a + 3) (by omega) (by omega), hF (9 * a + 4) (by omega) (by omega), hF (9 * a + 5) (by omega) (by omega), hF (9 * a + 6) (by omega) (by omega), hF (9 * a + 7) (by omega) (by omega), hF (9 * a + 8) (by omega) (by omega)]
  refine ⟨by rw [q 0 (by omega) (by omega)]; exact h1, by omega, fun a b a1 a2 a3 => ?_, fun a a1 a2 => ?_, fun a s a1 a2 a3 a4 => ?_⟩
  · by_cases c : b = M
    · rw [c, e', q a a1 (by omega)]
      exact nn t a a1 (by omega)
    · rw [q a a1 (by omega), q b (by omega) (by omega)]
      exact h3 a b a1 a2 (by omega)
  · by_cases c : a = M
    · rw [c, e']
      exact ⟨w, md⟩
    · rw [q a a1 (by omega)]
      exact h4 a a1 (by omega)
  · by_cases c : a = k ∧ s = j
    · refine ⟨M, by omega, by omega, ?_⟩
      rw [c.1, c.2, e', q k hk.1 hk.2, g t]
    · obtain ⟨b, b1, b2, b3⟩ := h5 a s a1 a2 a3 (by omega)
      refine ⟨b, b1, by omega, ?_⟩
      rw [q b b1 b2, q a a1 (by omega)]
      exact b3
theorem pg_X_k (h : pg_X G n F M k j) (hj : n ≤ j) (hk : k' = k + 1) (hj' : j' = 0) : pg_X G n F M k' j' := fun t => by
  subst hk hj'
  obtain ⟨h1, h2, h3, h4, h5⟩ := h t
  exact ⟨h1, h2, h3, h4, fun a q a1 a2 a3 a4 => h5 a q a1 a2 a3 (by omega)⟩
theorem pg_X_e (h : pg_X G n F M k j) (hk : M ≤ k) (hr : r = 1) : pg_CM (pt_Ls G n 9) r M := fun t => by
  obtain ⟨h1, h2, h3, h4, h5⟩ := h t
  refine Or.inl ⟨hr, fun i => pt_m F (9 * (i : Int)), fun i j hij hj => h3 i j (by omega) (by omega) hj, fun i hi => h4 i (by omega) hi, fun x hx => ?_⟩
  have q : ∀ a : Int, 0 ≤ a → a < M → ∃ b : Int, 0 ≤ b ∧ b < M ∧ pc_mul (pt_m F (9 * a)) x = pt_m F (9 * b) := by
    refine pc_W_ind (Q := fun x => ∀ a : Int, 0 ≤ a → a < M → ∃ b : Int, 0 ≤ b ∧ b < M ∧ pc_mul (pt_m F (9 * a)) x = pt_m F (9 * b)) ?_ ?_ hx
    · exact fun a a1 a2 => ⟨a, a1, a2, pc_mul_one _⟩
    · intro s hs y _ ih a a1 a2
      obtain ⟨g, g1, g2, e⟩ := pg_mem.mp hs
      obtain ⟨b, b1, b2, b3⟩ := h5 a g a1 g1 g2 (Or.inl (by omega))
      obtain ⟨c, c1, c2, c3⟩ := ih b b1 b2
      refine ⟨c, c1, c2, ?_⟩
      rw [← c3, ← b3, e, pc_assoc]
  obtain ⟨b, b1, b2, b3⟩ := q 0 (by omega) (by omega)
  refine ⟨b.toNat, by omega, ?_⟩
  rw [h1, pc_one_mul] at b3
  show x = pt_m F (9 * ((b.toNat : Nat) : Int))
  rw [show ((b.toNat : Nat) : Int) = b by omega]
  exact b3
theorem pg_X_m {σ : pm_H} {y : Int} (h : pg_X G n (σ 7) M k j) (hk : 0 ≤ k ∧ k < M) (hjn : 0 ≤ j ∧ j < n) (g : pg_P σ G (σ 7) k j) (m : pg_MD σ y) (hy : y = 0) (hr : r = 0) : pg_CM (pt_Ls G n 9) r M' := fun t => by
  refine Or.inr ⟨hr, Or.inl ⟨_, pg_X_W h g hk hjn, ?_⟩⟩
  rcases m t with ⟨a, _⟩ | ⟨_, a⟩
  · omega
  · exact a
theorem pg_X_f {σ : pm_H} {b y : Int} (h : pg_X G n (σ 7) M k j) (hM : M = 48) (hk : 0 ≤ k ∧ k < M) (hjn : 0 ≤ j ∧ j < n) (g : pg_P σ G (σ 7) k j) (v : pg_NO σ M b) (hb : b = -1) (m : pg_MD σ y) (hy : ¬ (y = 0)) (hr : r = 0) : pg_CM (pt_Ls G n 9) r M' := fun t => by
  have w := pg_X_W h g hk hjn
  subst hM
  obtain ⟨h1, h2, h3, h4, h5⟩ := h t
  have md : pc_le 999 (pt_m (σ 12) 0) := by
    rcases m t with ⟨_, a⟩ | ⟨a, _⟩
    · exact a
    · omega
  have nn : pg_NN σ 48 := by
    rcases v t with ⟨_, a⟩ | ⟨a, _⟩
    · exact a
    · omega
  refine Or.inr ⟨hr, Or.inr ⟨fun i => if i < 48 then pt_m (σ 7) (9 * (i : Int)) else pt_m (σ 12) 0, fun i j hij hj => ?_, fun i hi => ?_⟩⟩
  · by_cases c : j < 48
    · show (if i < 48 then _ else _) ≠ (if j < 48 then _ else _)
      rw [if_pos (by omega), if_pos c]
      exact h3 i j (by omega) (by omega) (by omega)
    · show (if i < 48 then _ else _) ≠ (if j < 48 then _ else _)
      rw [if_pos (by omega), if_neg c]
      exact nn t i (by omega) (by omega)
  · by_cases c : i < 48
    · show pc_W _ (if i < 48 then _ else _) ∧ pc_le 999 (if i < 48 then _ else _)
      rw [if_pos c]
      exact h4 i (by omega) (by omega)
    · show pc_W _ (if i < 48 then _ else _) ∧ pc_le 999 (if i < 48 then _ else _)
      rw [if_neg c]
      exact ⟨w, md⟩
/-- what is generated -/
def pg_GE (S : List pc_M) (r M : Int) : Prop := True → ((r = -3 ∧ pg_CM S 0 M) ∨ (¬ (r = -3) ∧ pg_CM S 1 M))
theorem pg_GE_3 {S : List pc_M} {z : Int} (h : pg_CM S z M) (hz : z = 0) (hr : r = -3) : pg_GE S r M := fun _ => by
  subst hz
  exact Or.inl ⟨hr, h⟩
theorem pg_GE_1 {S : List pc_M} {z : Int} (h : pg_CM S z M) (hz : ¬ (z = 0)) (hr : ¬ (r = -3)) (hM : M' = M) : pg_GE S r M' := fun t => by
  subst hM
  have e : z = 1 := by
    rcases h t with ⟨a, _⟩ | ⟨a, _⟩ <;> omega
  subst e
  exact Or.inr ⟨hr, h⟩
theorem pg_CM_1 {S : List pc_M} {z : Int} (h : pg_CM S z M) (hz : ¬ (z = 0)) : pg_CM S 1 M := by
  have e : z = 1 := by
    rcases h trivial with ⟨a, _⟩ | ⟨a, _⟩ <;> omega
  rw [← e]
  exact h
end GC
/-! bytes of both tapes; what a text's generators are like; class and reference between calls -/
section PJ
theorem pj_tI (y : BitVec 32) : y.toInt % 256 = (y.toNat : Int) % 256 := by
  rw [BitVec.toInt_eq_toNat_cond]
  split <;> omega
theorem pj_s24 (a : Int) : pm_ushr a 24 % 256 = pm_shr a 24 % 256 := by
  have e1 : pm_ushr a 24 = ((BitVec.ofInt 32 a) >>> 24).toInt := rfl
  have e2 : pm_shr a 24 = ((BitVec.ofInt 32 a).sshiftRight 24).toInt := rfl
  rw [e1, e2, BitVec.toInt_sshiftRight, pj_tI, BitVec.toNat_ushiftRight, Nat.shiftRight_eq_div_pow, Int.shiftRight_eq_div_pow, BitVec.toInt_eq_toNat_cond]
  have h : (BitVec.ofInt 32 a).toNat < 4294967296 := (BitVec.ofInt 32 a).isLt
  generalize (BitVec.ofInt 32 a).toNat = N at h ⊢
  split <;> omega
theorem pj_s16 (a : Int) : pm_ushr a 16 % 256 = pm_shr a 16 % 256 := by
  have e1 : pm_ushr a 16 = ((BitVec.ofInt 32 a) >>> 16).toInt := rfl
  have e2 : pm_shr a 16 = ((BitVec.ofInt 32 a).sshiftRight 16).toInt := rfl
  rw [e1, e2, BitVec.toInt_sshiftRight, pj_tI, BitVec.toNat_ushiftRight, Nat.shiftRight_eq_div_pow, Int.shiftRight_eq_div_pow, BitVec.toInt_eq_toNat_cond]
  have h : (BitVec.ofInt 32 a).toNat < 4294967296 := (BitVec.ofInt 32 a).isLt
  generalize (BitVec.ofInt 32 a).toNat = N at h ⊢
  split <;> omega
theorem pj_s8 (a : Int) : pm_ushr a 8 % 256 = pm_shr a 8 % 256 := by
  have e1 : pm_ushr a 8 = ((BitVec.ofInt 32 a) >>> 8).toInt := rfl
  have e2 : pm_shr a 8 = ((BitVec.ofInt 32 a).sshiftRight 8).toInt := rfl
  rw [e1, e2, BitVec.toInt_sshiftRight, pj_tI, BitVec.toNat_ushiftRight, Nat.shiftRight_eq_div_pow, Int.shiftRight_eq_div_pow, BitVec.toInt_eq_toNat_cond]
  have h : (BitVec.ofInt 32 a).toNat < 4294967296 := (BitVec.ofInt 32 a).isLt
  generalize (BitVec.ofInt 32 a).toNat = N at h ⊢
  split <;> omega
theorem pj_s0 (a : Int) : pm_ushr a 0 % 256 = pm_shr a 0 % 256 := by
  have e1 : pm_ushr a 0 = ((BitVec.ofInt 32 a) >>> 0).toInt := rfl
  have e2 : pm_shr a 0 = ((BitVec.ofInt 32 a).sshiftRight 0).toInt := rfl
  rw [e1, e2, BitVec.toInt_sshiftRight, pj_tI, BitVec.toNat_ushiftRight, Nat.shiftRight_eq_div_pow, Int.shiftRight_eq_div_pow, BitVec.toInt_eq_toNat_cond]
  have h : (BitVec.ofInt 32 a).toNat < 4294967296 := (BitVec.ofInt 32 a).isLt
  generalize (BitVec.ofInt 32 a).toNat = N at h ⊢
  split <;> omega
def pj_w (a b c d e i : Int) : Int := if i = 0 then a else if i = 1 then b else if i = 2 then c else if i = 3 then d else e
/-- the twenty bytes of five numbers -/
def pj_B (a b c d e j : Int) : Int := pm_shr (pj_w a b c d e (j / 4)) (24 - 8 * (j % 4)) % 256
theorem pj_v {a b c d e x6 x7 j w : Int} (h7 : x7 = 24 ∨ x7 = 16 ∨ x7 = 8 ∨ x7 = 0) (h6 : 0 ≤ x6) (hj : 8 * j = 32 * x6 + 24 - x7) (hw : w = pj_w a b c d e x6) : pm_and (pm_ushr w x7) 255 = pj_B a b c d e j := by
  unfold pj_B
  rw [pm_andm, show j / 4 = x6 by omega, show 24 - 8 * (j % 4) = x7 by omega, ← hw]
  rcases h7 with h | h | h | h <;> subst h
  · exact pj_s24 w
  · exact pj_s16 w
  · exact pj_s8 w
  · exact pj_s0 w
theorem pj_wv {τ : pm_H} {q : Nat} {a b c d e x : Int} (h : τ q 0 = a ∧ τ q 1 = b ∧ τ q 2 = c ∧ τ q 3 = d ∧ τ q 4 = e) (hx : 0 ≤ x ∧ x < 5) : τ q x = pj_w a b c d e x := by
  obtain ⟨h0, h1, h2, h3, h4⟩ := h
  rcases (show x = 0 ∨ x = 1 ∨ x = 2 ∨ x = 3 ∨ x = 4 by omega) with z | z | z | z | z <;> subst z
  · exact h0
  · exact h1
  · exact h2
  · exact h3
  · exact h4
theorem w8_256 (x : Int) : w8 x % 256 = x % 256 := by unfold w8; omega
/-- bytes of the reference's tape -/
def pj_em (τ : pm_H) (a b : Int) (f : Int → Int) : Prop := True → ∀ k : Int, a ≤ k → k < b → τ 78 k % 256 = f k
theorem pj_em_0 {τ : pm_H} {a b : Int} {f : Int → Int} (h : b ≤ a) : pj_em τ a b f := fun _ k k1 k2 => by omega
theorem pj_em_s {τ : pm_H} {a b b' v i : Int} {f : Int → Int} (h : pj_em τ a b f) (hi : i = b) (hb : b' = b + 1) (hv : v % 256 = f b) : pj_em (pm_up τ 78 i v) a b' f := fun t k k1 k2 => by
  subst hi hb
  by_cases c : k = i
  · subst c
    rw [pu_same]
    exact hv
  · rw [pu_nei c]
    exact h t k k1 (by omega)
theorem pj_em_ne {τ : pm_H} {a b i v : Int} {q : Nat} {f : Int → Int} (h : pj_em τ a b f) (hq : q ≠ 78) : pj_em (pm_up τ q i v) a b f := fun t k k1 k2 => by
  rw [pu_ne (Ne.symm hq)]
  exact h t k k1 k2
theorem pj_em_q {τ : pm_H} {a b a' b' : Int} {f g : Int → Int} (h : pj_em τ a b f) (ha : a = a') (hb : b' = b) (hf : ∀ k, a ≤ k → k < b → f k = g k) : pj_em τ a' b' g := fun t k k1 k2 => by
  subst ha hb
  rw [h t k k1 k2]
  exact hf k k1 k2
theorem pj_em_j {σ τ : pm_H} {a b c : Int} {f g : Int → Int} (h : pj_em σ a b f) (e : pm_er τ 78 0 b (σ 78)) (ha : 0 ≤ a) (h' : pj_em τ b c g) (hf : ∀ k, b ≤ k → k < c → g k = f k) : pj_em τ a c f := fun t k k1 k2 => by
  by_cases z : k < b
  · rw [e k (by omega) z]
    exact h t k k1 z
  · rw [h' t k (by omega) k2]
    exact hf k (by omega) k2
/-- the four bytes of a number -/
theorem pj_B4 {a b c d e s i k w : Int} (hi : 0 ≤ i) (hk : s + 4 * i ≤ k ∧ k < s + 4 * i + 4) (hw : w = pj_w a b c d e i) : pm_shr w (24 - 8 * (k - (s + 4 * i))) % 256 = pj_B a b c d e (k - s) := by
  unfold pj_B
  rw [show (k - s) / 4 = i by omega, ← hw, show 24 - 8 * ((k - s) % 4) = 24 - 8 * (k - (s + 4 * i)) by omega]
/-- what is in range -/
def pj_ok (s : pc_M) : Prop := pc_le 1 s ∧ pc_U s
theorem pt_set_le {m : pc_M} {i v : Int} (h : pc_le 1 m) (hv : v = 1 ∨ v = -1) : pc_le 1 (pt_set m i v) := by
  unfold pc_le pt_set at *
  refine ⟨?_, ?_, ?_, ?_, ?_, ?_, ?_, ?_, ?_⟩ <;> (dsimp only; split <;> omega)
theorem pt_z0 : pc_le 1 pt_0 := by
  unfold pc_le
  decide
theorem pt_stp_l {T : Int → Int} {q k row sg nm : Int} {m : pc_M} {fi n : Int} {L : List pc_M} {q' k' row' sg' nm' : Int} {m' : pc_M} {fi' n' : Int} {L' : List pc_M} (hs : sg = 1 ∨ sg = -1) (hm : pc_le 1 m) (hL : ∀ s, s ∈ L → pj_ok s) (e : pt_stp T q k row sg nm m fi n L = .inl (q', k', row', sg', nm', m', fi', n', L')) : (sg' = 1 ∨ sg' = -1) ∧ pc_le 1 m' ∧ ∀ s, s ∈ L' → pj_ok s := by
  unfold pt_stp at e
  (repeat' split at e) <;> first
    | (simp only [Sum.inl.injEq, Prod.mk.injEq] at e
       obtain ⟨-, -, -, e4, -, e6, -, -, e9⟩ := e
       rw [← e4, ← e6, ← e9]
       first
         | exact ⟨Or.inl rfl, hm, hL⟩
         | exact ⟨Or.inr rfl, hm, hL⟩
         | exact ⟨hs, hm, hL⟩
         | exact ⟨Or.inl rfl, pt_z0, hL⟩
         | exact ⟨Or.inl rfl, pt_set_le hm hs, hL⟩
         | (refine ⟨Or.inl rfl, pt_z0, fun s hs' => ?_⟩
            rcases List.mem_append.mp hs' with a | a
            · exact hL s a
            · rw [List.mem_singleton.mp a]
              exact ⟨hm, by assumption⟩))
    | (cases e; done)
theorem pt_stp_r {T : Int → Int} {q k row sg nm : Int} {m : pc_M} {fi n : Int} {L : List pc_M} {f' p' : Int} {L' : List pc_M} (hL : ∀ s, s ∈ L → pj_ok s) (e : pt_stp T q k row sg nm m fi n L = .inr (f', p', L')) : ∀ s, s ∈ L' → pj_ok s := by
  have e0 : ∀ s, s ∈ ([] : List pc_M) → pj_ok s := fun s hs => absurd hs (List.not_mem_nil)
  unfold pt_stp at e
  (repeat' split at e) <;> first
    | (simp only [Sum.inr.injEq, Prod.mk.injEq] at e
       rw [← e.2.2]
       first
         | exact hL
         | exact e0)
    | (cases e; done)
theorem pt_run_ok {T : Int → Int} : ∀ (f : Nat) (q k row sg nm : Int) (m : pc_M) (fi n : Int) (L : List pc_M) (f' p' : Int) (L' : List pc_M), (sg = 1 ∨ sg = -1) → pc_le 1 m → (∀ s, s ∈ L → pj_ok s) → pt_run T f (q, k, row, sg, nm, m, fi, n, L) = some (f', p', L') → ∀ s, s ∈ L' → pj_ok s
  | 0, _, _, _, _, _, _, _, _, _, _, _, _, _, _, _, h => by
    unfold pt_run at h
    exact absurd h (by simp)
  | f + 1, q, k, row, sg, nm, m, fi, n, L, f', p', L', hs, hm, hL, h => by
    unfold pt_run at h
    cases c : pt_stp T q k row sg nm m fi n L with
    | inr z =>
      rw [c] at h
      obtain ⟨a1, a2, a3⟩ := z
      have h' := Option.some.inj h
      simp only [Prod.mk.injEq] at h'
      rw [← h'.2.2]
      exact pt_stp_r hL c
    | inl z =>
      rw [c] at h
      obtain ⟨a1, a2, a3, a4, a5, a6, a7, a8, a9⟩ := z
      obtain ⟨b1, b2, b3⟩ := pt_stp_l hs hm hL c
      exact pt_run_ok f _ _ _ _ _ _ _ _ _ _ _ _ b1 b2 b3 h
theorem pt_RR_ok {T : Int → Int} {f p : Int} {L : List pc_M} (h : pt_RR T f p L) (hf : f = 0) : ∀ s, s ∈ L → pj_ok s := by
  rcases h trivial with ⟨_, _, g, e⟩ | ⟨a, _⟩
  · exact pt_run_ok g _ _ _ _ _ _ _ _ _ _ _ _ (Or.inl rfl) pt_z0 (fun s hs => absurd hs (List.not_mem_nil)) e
  · omega
theorem sy_mx_ok {n its ax mi : Int} (hn : n = 1 ∨ n = 2 ∨ n = 3 ∨ n = 4 ∨ n = 6) (hi : 0 ≤ its ∧ its ≤ 5) : pj_ok (sy_mx n its ax mi) := by
  have hk : sy_kd n its = 0 ∨ sy_kd n its = 1 ∨ sy_kd n its = 2 ∨ sy_kd n its = 3 ∨ sy_kd n its = 4 ∨ sy_kd n its = 5 ∨ sy_kd n its = 6 ∨ sy_kd n its = 7 := by
    unfold sy_kd
    (repeat' split) <;> omega
  have hs := pm_s3_c (sy_al ax its)
  unfold pj_ok sy_mx sy_mf pm_ta pc_le pc_U
  by_cases c : mi = 0
  · simp only [if_pos c]
    rcases hk with e | e | e | e | e | e | e | e <;> rw [e] <;> rcases hs with g | g | g <;> rw [g] <;> decide
  · simp only [if_neg c]
    rcases hk with e | e | e | e | e | e | e | e <;> rw [e] <;> rcases hs with g | g | g <;> rw [g] <;> decide
theorem sy_rC_ok {T : Int → Int} {ax mi n its k : Int} (hn : n = 1 ∨ n = 2 ∨ n = 3 ∨ n = 4 ∨ n = 6) (hi : 0 ≤ its ∧ its ≤ 5) (h : (sy_rC T ax mi n its k).1 = 0) : pj_ok (sy_rC T ax mi n its k).2.2.2.2 := by
  unfold sy_rC at h ⊢
  by_cases c : (sy_mv T n its 0 k).1 = 0
  · rw [if_pos c]
    exact sy_mx_ok hn hi
  · rw [if_neg c] at h
    exact absurd h c
theorem sy_rB_ok {T : Int → Int} {rot an ax mi n k : Int} (hn : n = 1 ∨ n = 2 ∨ n = 3 ∨ n = 4 ∨ n = 6) (h : (sy_rB T rot an ax mi n k).1 = 0) : pj_ok (sy_rB T rot an ax mi n k).2.2.2.2 := by
  have u := sy_us_v rot an n
  unfold sy_rB at h ⊢
  by_cases c1 : ((T k = 39 ∨ T k = 34) ∧ ¬ (n = 2)) ∨ (T k = 42 ∧ ¬ (n = 3))
  · rw [if_pos c1] at h
    dsimp only at h
    omega
  rw [if_neg c1] at h ⊢
  by_cases c2 : 120 ≤ T k ∧ T k ≤ 122
  · rw [if_pos c2] at h ⊢
    exact sy_rC_ok hn (by omega) h
  rw [if_neg c2] at h ⊢
  by_cases c3 : T k = 39
  · rw [if_pos c3] at h ⊢
    exact sy_rC_ok hn (by omega) h
  rw [if_neg c3] at h ⊢
  by_cases c4 : T k = 34
  · rw [if_pos c4] at h ⊢
    exact sy_rC_ok hn (by omega) h
  rw [if_neg c4] at h ⊢
  by_cases c5 : T k = 42
  · rw [if_pos c5] at h ⊢
    exact sy_rC_ok hn (by omega) h
  rw [if_neg c5] at h ⊢
  exact sy_rC_ok hn (by omega) h
theorem sy_rt_ok {T : Int → Int} {s rot an ax : Int} (h : (sy_rt T s rot an ax).1 = 0) : pj_ok (sy_rt T s rot an ax).2.2.2.2 := by
  have q : ∀ mi k : Int, (sy_rA T rot an ax mi k).1 = 0 → pj_ok (sy_rA T rot an ax mi k).2.2.2.2 := fun mi k h => by
    unfold sy_rA at h ⊢
    by_cases c : T k - 48 = 1 ∨ T k - 48 = 2 ∨ T k - 48 = 3 ∨ T k - 48 = 4 ∨ T k - 48 = 6
    · rw [if_pos c] at h ⊢
      exact sy_rB_ok c h
    · rw [if_neg c] at h
      dsimp only at h
      omega
  unfold sy_rt at h ⊢
  by_cases c : T s = 45
  · rw [if_pos c] at h ⊢
    exact q _ _ h
  · rw [if_neg c] at h ⊢
    exact q _ _ h
theorem sy_wd_ok {T : Int → Int} : ∀ (n : Nat) (k rot an ax : Int) (L : List pc_M), (4 - rot).toNat ≤ n → (∀ s, s ∈ L → pj_ok s) → (sy_wd T k rot an ax L).1 = 0 → ∀ s, s ∈ (sy_wd T k rot an ax L).2.2 → pj_ok s := by
  intro n
  induction n with
  | zero =>
    intro k rot an ax L hr hL h
    rw [sy_wd_u] at h ⊢
    by_cases c1 : ¬ (T k = -1) ∧ ¬ (T k = 32)
    · rw [if_pos c1] at h
      dsimp only at h
      omega
    rw [if_neg c1] at h ⊢
    by_cases c2 : T (pt_sk T k) = 45 ∨ (T (pt_sk T k) - 48 = 1 ∨ T (pt_sk T k) - 48 = 2 ∨ T (pt_sk T k) - 48 = 3 ∨ T (pt_sk T k) - 48 = 4 ∨ T (pt_sk T k) - 48 = 6)
    · rw [if_pos c2, if_pos (show 4 ≤ rot by omega)] at h
      dsimp only at h
      omega
    rw [if_neg c2] at h ⊢
    by_cases c3 : T (pt_sk T k) = 40
    · rw [if_pos c3] at h ⊢
      by_cases c4 : (sy_sr T 0 (pt_sk T k + 1)).1 = 0
      · rw [if_pos c4]
        exact hL
      · rw [if_neg c4] at h
        exact absurd h c4
    rw [if_neg c3] at h ⊢
    by_cases c5 : T (pt_sk T k) = -1
    · rw [if_pos c5]
      exact hL
    · rw [if_neg c5] at h
      dsimp only at h
      omega
  | succ n ih =>
    intro k rot an ax L hr hL h
    rw [sy_wd_u] at h ⊢
    by_cases c1 : ¬ (T k = -1) ∧ ¬ (T k = 32)
    · rw [if_pos c1] at h
      dsimp only at h
      omega
    rw [if_neg c1] at h ⊢
    by_cases c2 : T (pt_sk T k) = 45 ∨ (T (pt_sk T k) - 48 = 1 ∨ T (pt_sk T k) - 48 = 2 ∨ T (pt_sk T k) - 48 = 3 ∨ T (pt_sk T k) - 48 = 4 ∨ T (pt_sk T k) - 48 = 6)
    · rw [if_pos c2] at h ⊢
      by_cases c6 : 4 ≤ rot
      · rw [if_pos c6] at h
        dsimp only at h
        omega
      rw [if_neg c6] at h ⊢
      by_cases c7 : (sy_rt T (pt_sk T k) rot an ax).1 = 0
      · rw [if_pos c7] at h ⊢
        exact ih _ _ _ _ _ (by omega) (fun s hs => by
          rcases List.mem_append.mp hs with a | a
          · exact hL s a
          · rw [List.mem_singleton.mp a]
            exact sy_rt_ok c7) h
      · rw [if_neg c7] at h
        exact absurd h c7
    rw [if_neg c2] at h ⊢
    by_cases c3 : T (pt_sk T k) = 40
    · rw [if_pos c3] at h ⊢
      by_cases c4 : (sy_sr T 0 (pt_sk T k + 1)).1 = 0
      · rw [if_pos c4]
        exact hL
      · rw [if_neg c4] at h
        exact absurd h c4
    rw [if_neg c3] at h ⊢
    by_cases c5 : T (pt_sk T k) = -1
    · rw [if_pos c5]
      exact hL
    · rw [if_neg c5] at h
      dsimp only at h
      omega
theorem sy_RR_ok {T : Int → Int} {f p : Int} {L : List pc_M} (h : sy_RR T f p L) (hf : f = 0) : ∀ s, s ∈ L → pj_ok s := by
  rcases h trivial with ⟨_, _, e⟩ | ⟨a, _⟩
  · unfold sy_all at e
    split at e
    · have z := sy_wd_ok (T := T) 4 (sy_k1 T (pt_sk T 0) + 1) 0 0 2 (sy_id (sy_ln (T (sy_k1 T (pt_sk T 0)))) ++ if T (pt_sk T 0) = 45 then [sy_I] else []) (by decide) (fun s hs => by
        rcases List.mem_append.mp hs with a | a
        · have b : s = pc_1 := (List.mem_replicate.mp a).2
          rw [b]
          exact ⟨by unfold pc_le; decide, by unfold pc_U; decide⟩
        · split at a
          · rw [List.mem_singleton.mp a]
            exact ⟨by unfold pc_le; decide, by unfold pc_U; decide⟩
          · exact absurd a (List.not_mem_nil)) (by rw [e])
      rw [e] at z
      exact z
    · have z := congrArg (fun z : pt_R => z.1) e
      dsimp only at z
      omega
  · omega
/-- what a text says, triples or symbol -/
def pj_P (T : Int → Int) (x f p : Int) (L : List pc_M) : Prop := True → ((x = 0 ∧ pt_RR T f p L) ∨ (¬ (x = 0) ∧ sy_RR T f p L))
theorem pj_P_ok {T : Int → Int} {x f p : Int} {L : List pc_M} (h : pj_P T x f p L) (hf : f = 0) : ∀ s, s ∈ L → pj_ok s := by
  rcases h trivial with ⟨_, a⟩ | ⟨_, a⟩
  · exact pt_RR_ok a hf
  · exact sy_RR_ok a hf
theorem pj_P_det {T : Int → Int} {x f p f' p' : Int} {L L' : List pc_M} (h : pj_P T x f p L) (h' : pj_P T x f' p' L') : f = f' ∧ p = p' ∧ (f = 0 → L = L') := by
  rcases h trivial with ⟨c, a⟩ | ⟨c, a⟩ <;> rcases h' trivial with ⟨d, b⟩ | ⟨d, b⟩
  · exact pt_RR_det a b
  · exact absurd c d
  · exact absurd d c
  · exact sy_RR_det a b
theorem pj_P_g {T : Int → Int} {G : Int → Int} {x f p n : Int} (h : pj_P T x f p (pt_Ls G n 9)) (hf : f = 0) : pg_g1 G n := fun _ q q1 q2 => (pj_P_ok h hf _ (pg_mem.mpr ⟨q, q1, q2, rfl⟩)).1
theorem pj_P_0 {T : Int → Int} {x f p : Int} {L : List pc_M} (h : pt_RR T f p L) (hx : x = 0) : pj_P T x f p L := fun _ => Or.inl ⟨hx, h⟩
theorem pj_P_1 {T : Int → Int} {x f p : Int} {L : List pc_M} (h : sy_RR T f p L) (hx : ¬ (x = 0)) : pj_P T x f p L := fun _ => Or.inr ⟨hx, h⟩
theorem pj_P_q {T T' : Int → Int} {x f p f' p' : Int} {L L' : List pc_M} (h : pj_P T x f p L) (hT : T' = T) (hf : f' = f) (hp : p' = p) (hL : L' = L) : pj_P T' x f' p' L' := by
  rw [hT, hf, hp, hL]
  exact h
end PJ
/-! a read of both, and what holds between calls -/
section PR
def pj_cr (T : Int → Int) (x f p c m : Int) : Prop := True → ∃ L : List pc_M, pj_P T x f p L ∧ (f = 0 ∨ (c = 0 ∧ m = 0)) ∧ (¬ (f = 0) ∨ ((L.length : Int) = c ∧ ∃ r M : Int, pg_GE L r M ∧ (0 ≤ M ∧ M ≤ 48) ∧ ((r = -3 ∧ m = 49) ∨ (¬ (r = -3) ∧ m = M))))
def pj_rr (T : Int → Int) (x f p c m : Int) : Prop := True → ∃ L : List pc_M, pj_P T x f p L ∧ 0 ≤ f ∧ (f = 0 ∨ (c = 0 ∧ m = 0)) ∧ (¬ (f = 0) ∨ ((L.length : Int) = c ∧ (1 ≤ m ∧ m ≤ 49) ∧ pg_RM L m))
theorem pj_eq {T : Int → Int} {x f p c m f' p' c' m' : Int} (h : pj_cr T x f p c m) (h' : pj_rr T x f' p' c' m') : 0 ≤ f' ∧ f = f' ∧ p = p' ∧ c = c' ∧ m = m' := by
  obtain ⟨L, a1, a2, a3⟩ := h trivial
  obtain ⟨L', b1, b0, b2, b3⟩ := h' trivial
  obtain ⟨e1, e2, e3⟩ := pj_P_det a1 b1
  by_cases z : f = 0
  · have eL := e3 z
    subst eL
    rcases a3 with a3 | ⟨a4, r, M, g, hM, a5⟩
    · exact absurd z a3
    rcases b3 with b3 | ⟨b4, b5, b6⟩
    · omega
    have q : m = m' := by
      rcases g trivial with ⟨gr, gc⟩ | ⟨gr, gc⟩
      · rcases pg_agree (fun s hs => pj_P_ok a1 z s hs) b6 gc b5 hM with ⟨u, _⟩ | ⟨_, u⟩ <;> omega
      · rcases pg_agree (fun s hs => pj_P_ok a1 z s hs) b6 gc b5 hM with ⟨_, u⟩ | ⟨u, _⟩ <;> omega
    exact ⟨b0, e1, e2, by omega, q⟩
  · rcases a2 with a2 | a2
    · exact absurd a2 z
    rcases b2 with b2 | b2
    · omega
    exact ⟨b0, e1, e2, by omega, by omega⟩
theorem pt_Ls_len {f : Int → Int} {n w : Int} (h : 0 ≤ n) : ((pt_Ls f n w).length : Int) = n := by
  unfold pt_Ls
  rw [List.length_map, List.length_range]
  omega
/-- the reference's text, of its tape -/
def pj_X (σ : pm_H) (n k : Int) : Int := if 0 ≤ k ∧ k < n then σ 78 k % 256 else -1
theorem pj_XT {σ τ : pm_H} {n : Int} (h : pm_er τ 79 0 n (σ 78)) (e : τ 77 3 = n) : pt_T τ = pj_X σ n := by
  funext k
  unfold pt_T pj_X
  rw [e]
  by_cases c : 0 ≤ k ∧ k < n
  · rw [if_pos c, if_pos c, h k c.1 c.2]
  · rw [if_neg c, if_neg c]
theorem pj_XU {σ : pm_H} {n : Int} (h : ∀ k : Int, 0 ≤ k → k < n → σ 30 k = σ 78 k % 256) : pj_X σ n = pt_U σ n := by
  funext k
  unfold pt_U pj_X
  by_cases c : 0 ≤ k ∧ k < n
  · rw [if_pos c, if_pos c, h k c.1 c.2]
  · rw [if_neg c, if_neg c]
theorem pj_rr_f {T : Int → Int} {x f p c m f' p' : Int} {L : List pc_M} (h : pj_P T x f p L) (hf : 0 < f) (hc : c = 0) (hm : m = 0) (h1 : f' = f) (h2 : p' = p) : pj_rr T x f' p' c m := fun _ => by
  subst h1 h2
  exact ⟨L, h, by omega, Or.inr ⟨hc, hm⟩, Or.inl (by omega)⟩
theorem pj_rr_0 {T : Int → Int} {x f p c m f' p' n : Int} {G : Int → Int} (h : pj_P T x f p (pt_Ls G n 12)) (hf : f = 0) (hn : 0 ≤ n) (hc : c = n) (g : pg_RM (pt_Ls G n 12) m) (hm : 1 ≤ m ∧ m ≤ 49) (h1 : f' = f) (h2 : p' = p) : pj_rr T x f' p' c m := fun _ => by
  subst h1 h2
  exact ⟨_, h, by omega, Or.inl hf, Or.inr ⟨by rw [pt_Ls_len hn, hc], hm, g⟩⟩
theorem pj_rr_q {T : Int → Int} {x f p c m f' p' c' m' : Int} (h : pj_rr T x f p c m) (h1 : f' = f) (h2 : p' = p) (h3 : c' = c) (h4 : m' = m) : pj_rr T x f' p' c' m' := by
  rw [h1, h2, h3, h4]
  exact h
theorem pj_cr_f {T : Int → Int} {x f p c m : Int} {L : List pc_M} (h : pj_P T x f p L) (hf : ¬ (f = 0)) (hc : c = 0) (hm : m = 0) : pj_cr T x f p c m := fun _ => ⟨L, h, Or.inr ⟨hc, hm⟩, Or.inl hf⟩
/-- behind generate -/
def pj_92 (T : Int → Int) (x r f p c M : Int) : Prop := True → ∃ L : List pc_M, pj_P T x f p L ∧ (L.length : Int) = c ∧ pg_GE L r M ∧ 0 ≤ M ∧ M ≤ 48
theorem pj_92_of {T : Int → Int} {x r f p f' p' c n M : Int} {G : Int → Int} (h : pj_P T x f p (pt_Ls G n 9)) (hn : 0 ≤ n) (g : pg_GE (pt_Ls G n 9) r M) (hM : 0 ≤ M ∧ M ≤ 48) (hc : c = n) (h1 : f' = f) (h2 : p' = p) : pj_92 T x r f' p' c M := fun _ => by
  subst h1 h2
  exact ⟨_, h, by rw [pt_Ls_len hn, hc], g, hM.1, hM.2⟩
theorem pj_cr_0 {T : Int → Int} {x r f p c M m f' p' c' : Int} (h : pj_92 T x r f p c M) (hf : f = 0) (hm : (r = -3 ∧ m = 49) ∨ (¬ (r = -3) ∧ m = M)) (h1 : f' = f) (h2 : p' = p) (h3 : c' = c) : pj_cr T x f' p' c' m := fun t => by
  subst h1 h2 h3
  obtain ⟨L, a, b, g, m1, m2⟩ := h t
  exact ⟨L, a, Or.inl hf, Or.inr ⟨b, r, M, g, ⟨m1, m2⟩, hm⟩⟩
theorem pj_cr_q {T : Int → Int} {x f p c m f' p' c' m' : Int} (h : pj_cr T x f p c m) (h1 : f' = f) (h2 : p' = p) (h3 : c' = c) (h4 : m' = m) : pj_cr T x f' p' c' m' := by
  rw [h1, h2, h3, h4]
  exact h
/-- the answer of fault -/
def pj_a (h f p c m w : Int) : Int := if h = 0 then -1 else if w = 0 then f else if w = 1 then p else if w = 2 then c else if w = 3 then m else -1
theorem pj_a_v (h f p c m w : Int) : (h = 0 ∧ pj_a h f p c m w = -1) ∨ (¬ (h = 0) ∧ w = 0 ∧ pj_a h f p c m w = f) ∨ (¬ (h = 0) ∧ w = 1 ∧ pj_a h f p c m w = p) ∨ (¬ (h = 0) ∧ w = 2 ∧ pj_a h f p c m w = c) ∨ (¬ (h = 0) ∧ w = 3 ∧ pj_a h f p c m w = m) ∨ (¬ (h = 0) ∧ ¬ (w = 0) ∧ ¬ (w = 1) ∧ ¬ (w = 2) ∧ ¬ (w = 3) ∧ pj_a h f p c m w = -1) := by
  unfold pj_a
  (repeat' split) <;> omega
def pj_h (f : Int) : Int := if f < 0 then 0 else 1
theorem pj_h_v (f : Int) : (f < 0 ∧ pj_h f = 0) ∨ (0 ≤ f ∧ pj_h f = 1) := by
  unfold pj_h
  split <;> omega
/-- a read of the class, of the reference -/
def pj_CR (σ τ : pm_H) (x1 x2 x3 : Int) : Prop := True → (((x2 < 0 ∨ σ 1 13 < x2 ∨ x1 < 0 ∨ 5 < x1) ∧ τ 1 13 = σ 1 13 ∧ τ 1 15 = σ 1 15 ∧ τ 1 16 = σ 1 16 ∧ (τ 31 2 = σ 31 2 ∧ τ 31 3 = σ 31 3 ∧ τ 31 4 = σ 31 4) ∧ τ 30 = σ 30) ∨ (¬ (x2 < 0 ∨ σ 1 13 < x2 ∨ x1 < 0 ∨ 5 < x1) ∧ τ 1 13 = 0 ∧ τ 1 15 = 1 ∧ pj_cr (pt_U σ x2) x3 (τ 31 3) (τ 31 4) (τ 31 2) (τ 1 16)))
theorem pj_CR_n {σ τ : pm_H} {x1 x2 x3 : Int} (h : x2 < 0 ∨ σ 1 13 < x2 ∨ x1 < 0 ∨ 5 < x1) (e : τ 1 13 = σ 1 13 ∧ τ 1 15 = σ 1 15 ∧ τ 1 16 = σ 1 16 ∧ (τ 31 2 = σ 31 2 ∧ τ 31 3 = σ 31 3 ∧ τ 31 4 = σ 31 4)) (e' : τ 30 = σ 30) : pj_CR σ τ x1 x2 x3 := fun _ => Or.inl ⟨h, e.1, e.2.1, e.2.2.1, e.2.2.2, e'⟩
theorem pj_CR_y {σ τ : pm_H} {x1 x2 x3 : Int} (h : ¬ (x2 < 0 ∨ σ 1 13 < x2 ∨ x1 < 0 ∨ 5 < x1)) (e1 : τ 1 13 = 0) (e2 : τ 1 15 = 1) (e3 : pj_cr (pt_U σ x2) x3 (τ 31 3) (τ 31 4) (τ 31 2) (τ 1 16)) : pj_CR σ τ x1 x2 x3 := fun _ => Or.inr ⟨h, e1, e2, e3⟩
def pj_RS (σ τ : pm_H) (x1 x2 x3 : Int) : Prop := True → (((x2 < 0 ∨ σ 77 2 < x2 ∨ x1 < 0 ∨ 5 < x1) ∧ τ 77 2 = σ 77 2 ∧ (τ 77 6 = σ 77 6 ∧ τ 77 7 = σ 77 7 ∧ τ 77 8 = σ 77 8 ∧ τ 77 9 = σ 77 9) ∧ τ 78 = σ 78) ∨ (¬ (x2 < 0 ∨ σ 77 2 < x2 ∨ x1 < 0 ∨ 5 < x1) ∧ τ 77 2 = 0 ∧ pj_rr (pj_X σ x2) x3 (τ 77 6) (τ 77 7) (τ 77 8) (τ 77 9)))
theorem pj_RS_n {σ τ : pm_H} {x1 x2 x3 : Int} (h : x2 < 0 ∨ σ 77 2 < x2 ∨ x1 < 0 ∨ 5 < x1) (e : τ 77 2 = σ 77 2) (e2 : τ 77 6 = σ 77 6 ∧ τ 77 7 = σ 77 7 ∧ τ 77 8 = σ 77 8 ∧ τ 77 9 = σ 77 9) (e' : τ 78 = σ 78) : pj_RS σ τ x1 x2 x3 := fun _ => Or.inl ⟨h, e, e2, e'⟩
theorem pj_RS_y {σ τ : pm_H} {x1 x2 x3 : Int} (h : ¬ (x2 < 0 ∨ σ 77 2 < x2 ∨ x1 < 0 ∨ 5 < x1)) (e1 : τ 77 2 = 0) (e3 : pj_rr (pj_X σ x2) x3 (τ 77 6) (τ 77 7) (τ 77 8) (τ 77 9)) : pj_RS σ τ x1 x2 x3 := fun _ => Or.inr ⟨h, e1, e3⟩
/-- feed of the class, of the reference -/
def pj_CF (σ τ : pm_H) (a b c d e : Int) : Prop := True → ((400 < σ 1 13 + 20 ∧ τ 1 13 = σ 1 13 ∧ τ 30 = σ 30) ∨ (σ 1 13 + 20 ≤ 400 ∧ τ 1 13 = σ 1 13 + 20 ∧ pm_er τ 30 0 (σ 1 13) (σ 30) ∧ pm_er τ 30 (σ 1 13) (σ 1 13 + 20) (fun k => pj_B a b c d e (k - σ 1 13))))
theorem pj_CF_n {σ τ : pm_H} {a b c d e : Int} (h : 400 < σ 1 13 + 20) (h1 : τ 1 13 = σ 1 13) (h2 : τ 30 = σ 30) : pj_CF σ τ a b c d e := fun _ => Or.inl ⟨h, h1, h2⟩
theorem pj_CF_y {σ τ : pm_H} {a b c d e n : Int} (h : σ 1 13 + 20 ≤ 400) (h1 : τ 1 13 = σ 1 13 + 20) (h2 : pm_er τ 30 0 (σ 1 13) (σ 30)) (h3 : pm_er τ 30 (σ 1 13) n (fun k => pj_B a b c d e (k - σ 1 13))) (hn : n = σ 1 13 + 20) : pj_CF σ τ a b c d e := fun _ => by
  subst hn
  exact Or.inr ⟨h, h1, h2, h3⟩
def pj_RF (σ τ : pm_H) (a b c d e : Int) : Prop := True → ((400 < σ 77 2 + 20 ∧ τ 77 2 = σ 77 2 ∧ τ 78 = σ 78) ∨ (σ 77 2 + 20 ≤ 400 ∧ τ 77 2 = σ 77 2 + 20 ∧ pm_er τ 78 0 (σ 77 2) (σ 78) ∧ pj_em τ (σ 77 2) (σ 77 2 + 20) (fun k => pj_B a b c d e (k - σ 77 2))))
theorem pj_RF_n {σ τ : pm_H} {a b c d e : Int} (h : 400 < σ 77 2 + 20) (h1 : τ 77 2 = σ 77 2) (h2 : τ 78 = σ 78) : pj_RF σ τ a b c d e := fun _ => Or.inl ⟨h, h1, h2⟩
theorem pj_RF_y {σ τ : pm_H} {a b c d e n : Int} (h : σ 77 2 + 20 ≤ 400) (h1 : τ 77 2 = σ 77 2 + 20) (h2 : pm_er τ 78 0 (σ 77 2) (σ 78)) (h3 : pj_em τ (σ 77 2) n (fun k => pj_B a b c d e (k - σ 77 2))) (hn : n = σ 77 2 + 20) : pj_RF σ τ a b c d e := fun _ => by
  subst hn
  exact Or.inr ⟨h, h1, h2, h3⟩
theorem pj_er_tr {σ τ ρ : pm_H} {n n' : Int} {q : Nat} (h : pm_er τ q 0 n (σ q)) (h' : pm_er ρ q 0 n' (τ q)) (hn : n ≤ n') : pm_er ρ q 0 n (σ q) := fun k k1 k2 => by
  rw [h' k k1 (by omega)]
  exact h k k1 k2
theorem pj_st4 {σ τ ρ : pm_H} {a b c d e w n m i : Int} (h : pj_em τ (σ 77 2) n (fun k => pj_B a b c d e (k - σ 77 2))) (er : pm_er ρ 78 0 (τ 77 2) (τ 78)) (h' : pj_em ρ (τ 77 2) (τ 77 2 + 4) (fun k => pm_shr w (24 - 8 * (k - τ 77 2)) % 256)) (_ : pm_er ρ 78 0 (τ 77 2) (τ 78)) (h0 : 0 ≤ σ 77 2) (hn : n = σ 77 2 + 4 * i) (ht : τ 77 2 = σ 77 2 + 4 * i) (hm : m = σ 77 2 + 4 * i + 4) (hi : 0 ≤ i) (hw : w = pj_w a b c d e i) : pj_em ρ (σ 77 2) m (fun k => pj_B a b c d e (k - σ 77 2)) := by
  subst hn hm
  refine pj_em_q (pj_em_j h (by rw [← ht]; exact er) h0 (by rw [← ht]; exact h') (fun k k1 k2 => ?_)) rfl (by omega) (fun _ _ _ => rfl)
  rw [ht]
  exact pj_B4 hi ⟨by omega, by omega⟩ hw
/-- between calls -/
def pj (σ : pm_H) : Prop := True → (σ 1 13 = σ 77 2 ∧ (∀ k : Int, 0 ≤ k → k < σ 77 2 → σ 30 k = σ 78 k % 256) ∧ ((σ 1 15 = 0 ∧ σ 77 6 = -1) ∨ (σ 1 15 = 1 ∧ 0 ≤ σ 77 6 ∧ σ 31 3 = σ 77 6 ∧ σ 31 4 = σ 77 7 ∧ σ 31 2 = σ 77 8 ∧ σ 1 16 = σ 77 9)) ∧ sy_St σ)
theorem pj_by {σ : pm_H} (h : pj σ) : pt_by σ (σ 1 13) := fun _ k k1 k2 => by
  have a := (h trivial).2.1 k k1 (by rw [← (h trivial).1]; exact k2)
  omega
theorem pj_keep {σ τ : pm_H} (h : pj σ) (e : τ 1 13 = σ 1 13 ∧ τ 1 15 = σ 1 15 ∧ τ 1 16 = σ 1 16 ∧ (τ 31 2 = σ 31 2 ∧ τ 31 3 = σ 31 3 ∧ τ 31 4 = σ 31 4)) (e30 : τ 30 = σ 30) (e2 : τ 77 2 = σ 77 2) (e6 : τ 77 6 = σ 77 6 ∧ τ 77 7 = σ 77 7 ∧ τ 77 8 = σ 77 8 ∧ τ 77 9 = σ 77 9) (e78 : τ 78 = σ 78) (e1 : τ 112 = σ 112) (e3 : τ 113 = σ 113) (e4 : τ 114 = σ 114) : pj τ := fun t => by
  obtain ⟨a, b, c, d⟩ := h t
  refine ⟨by omega, fun k k1 k2 => ?_, by omega, sy_St_eq d e1 e3 e4⟩
  rw [e30, e78]
  exact b k k1 (by omega)
theorem pj_cls {σ τ : pm_H} (h : pj σ) (kf : pv_kf σ τ) (e : τ 1 13 = σ 1 13 ∧ τ 1 15 = σ 1 15 ∧ τ 1 16 = σ 1 16 ∧ (τ 31 2 = σ 31 2 ∧ τ 31 3 = σ 31 3 ∧ τ 31 4 = σ 31 4)) (e30 : τ 30 = σ 30) : pj τ := by
  have e77 := kf 77 (by decide)
  exact pj_keep h e e30 (by rw [e77]) (by rw [e77]; exact ⟨rfl, rfl, rfl, rfl⟩) (kf 78 (by decide)) (kf 112 (by decide)) (kf 113 (by decide)) (kf 114 (by decide))
theorem pj_ref {σ τ : pm_H} {as : List Nat} {fs : List (Nat × Int)} (h : pj σ) (hf : pm_fr as fs σ τ) (ha : ∀ q ∈ as, 77 < q ∧ q < 112 ∧ q ≠ 78) (hs : ∀ z ∈ fs, z.1 = 77 ∧ z.2 ≠ 2 ∧ z.2 ≠ 6 ∧ z.2 ≠ 7 ∧ z.2 ≠ 8 ∧ z.2 ≠ 9) : pj τ := by
  have e : ∀ q : Nat, (q < 77 ∨ 112 ≤ q ∨ q = 78) → τ q = σ q := fun q hq => pm_fa hf q (fun z => by
    have := ha q z
    omega) (fun z hz e => by
    have := hs z hz
    omega)
  have f : ∀ k : Int, (k = 2 ∨ k = 6 ∨ k = 7 ∨ k = 8 ∨ k = 9) → τ 77 k = σ 77 k := fun k hk => pm_ff hf 77 k (fun z => by
    have := ha 77 z
    omega) (fun z => by
    have := hs _ z
    dsimp only at this
    omega)
  have e1 := e 1 (by omega)
  have e31 := e 31 (by omega)
  exact pj_keep h (by rw [e1, e31]; exact ⟨rfl, rfl, rfl, rfl, rfl, rfl⟩) (e 30 (by omega)) (f 2 (by omega)) ⟨f 6 (by omega), f 7 (by omega), f 8 (by omega), f 9 (by omega)⟩ (e 78 (by omega)) (e 112 (by omega)) (e 113 (by omega)) (e 114 (by omega))
/-- what is of the reference, of the class -/
def pj_sc (σ τ : pm_H) : Prop := True → ((τ 1 13 = σ 1 13 ∧ τ 1 15 = σ 1 15 ∧ τ 1 16 = σ 1 16 ∧ (τ 31 2 = σ 31 2 ∧ τ 31 3 = σ 31 3 ∧ τ 31 4 = σ 31 4)) ∧ τ 30 = σ 30 ∧ τ 112 = σ 112 ∧ τ 113 = σ 113 ∧ τ 114 = σ 114)
theorem pj_sc_f {σ τ : pm_H} {as : List Nat} {fs : List (Nat × Int)} (hf : pm_fr as fs σ τ) (ha : ∀ q ∈ as, 77 < q ∧ q < 112) (hs : ∀ z ∈ fs, z.1 = 77) : pj_sc σ τ := fun _ => by
  have e : ∀ q : Nat, (q < 77 ∨ 112 ≤ q) → τ q = σ q := fun q hq => pm_fa hf q (fun z => by
    have := ha q z
    omega) (fun z hz e => by
    have := hs z hz
    omega)
  have e1 := e 1 (by omega)
  have e31 := e 31 (by omega)
  exact ⟨by rw [e1, e31]; exact ⟨rfl, rfl, rfl, rfl, rfl, rfl⟩, e 30 (by omega), e 112 (by omega), e 113 (by omega), e 114 (by omega)⟩
/-- feed: both -/
theorem pj_feed {ρ σ τ : pm_H} {a b c d e : Int} (h : pj ρ) (kf : pv_kf ρ σ) (hk : σ 1 15 = ρ 1 15 ∧ σ 1 16 = ρ 1 16 ∧ (σ 31 2 = ρ 31 2 ∧ σ 31 3 = ρ 31 3 ∧ σ 31 4 = ρ 31 4)) (hc : pj_CF ρ σ a b c d e) (hs : pj_sc σ τ) (h6 : τ 77 6 = σ 77 6 ∧ τ 77 7 = σ 77 7 ∧ τ 77 8 = σ 77 8 ∧ τ 77 9 = σ 77 9) (hr : pj_RF σ τ a b c d e) : pj τ := fun t => by
  obtain ⟨a1, a2, a3, a4⟩ := h t
  have e77 := kf 77 (by decide)
  have e78 := kf 78 (by decide)
  obtain ⟨s1, s2, s3, s4, s5⟩ := hs t
  have f2 : σ 77 2 = ρ 77 2 := by rw [e77]
  have f6 : σ 77 6 = ρ 77 6 := by rw [e77]
  have f7 : σ 77 7 = ρ 77 7 := by rw [e77]
  have f8 : σ 77 8 = ρ 77 8 := by rw [e77]
  have f9 : σ 77 9 = ρ 77 9 := by rw [e77]
  have st : sy_St τ := sy_St_eq a4 (s3.trans (kf 112 (by decide))) (s4.trans (kf 113 (by decide))) (s5.trans (kf 114 (by decide)))
  rcases hc t with ⟨c1, c2, c3⟩ | ⟨c1, c2, c3, c4⟩ <;> rcases hr t with ⟨r1, r2, r3⟩ | ⟨r1, r2, r3, r4⟩
  · refine ⟨by omega, fun k k1 k2 => ?_, by omega, st⟩
    rw [s2, c3, r3, e78]
    exact a2 k k1 (by omega)
  · omega
  · omega
  · refine ⟨by omega, fun k k1 k2 => ?_, by omega, st⟩
    rw [s2]
    by_cases z : k < ρ 77 2
    · rw [c3 k k1 (by omega), r3 k k1 (by omega), e78]
      exact a2 k k1 z
    · rw [c4 k (by omega) (by omega), r4 t k (by omega) (by omega), show σ 77 2 = ρ 1 13 by omega]
/-- read: both -/
theorem pj_read {ρ σ τ : pm_H} {x1 x2 x3 : Int} (h : pj ρ) (kf : pv_kf ρ σ) (hc : pj_CR ρ σ x1 x2 x3) (hs : pj_sc σ τ) (hr : pj_RS σ τ x1 x2 x3) : pj τ := fun t => by
  obtain ⟨a1, a2, a3, a4⟩ := h t
  have e77 := kf 77 (by decide)
  have e78 := kf 78 (by decide)
  obtain ⟨s1, s2, s3, s4, s5⟩ := hs t
  have f2 : σ 77 2 = ρ 77 2 := by rw [e77]
  have f6 : σ 77 6 = ρ 77 6 := by rw [e77]
  have f7 : σ 77 7 = ρ 77 7 := by rw [e77]
  have f8 : σ 77 8 = ρ 77 8 := by rw [e77]
  have f9 : σ 77 9 = ρ 77 9 := by rw [e77]
  have st : sy_St τ := sy_St_eq a4 (s3.trans (kf 112 (by decide))) (s4.trans (kf 113 (by decide))) (s5.trans (kf 114 (by decide)))
  rcases hc t with ⟨c1, c2, c3, c4, c5, c6⟩ | ⟨c1, c2, c3, c4⟩ <;> rcases hr t with ⟨r1, r2, r3, r4⟩ | ⟨r1, r2, r3⟩
  · refine ⟨by omega, fun k k1 k2 => ?_, by omega, st⟩
    rw [s2, c6, r4, e78]
    exact a2 k k1 (by omega)
  · omega
  · omega
  · have eX : pj_X σ x2 = pt_U ρ x2 := by
      have q : pj_X σ x2 = pj_X ρ x2 := by
        unfold pj_X
        rw [e78]
      rw [q]
      exact pj_XU (fun k k1 k2 => a2 k k1 (by omega))
    rw [eX] at r3
    have q := pj_eq c4 r3
    exact ⟨by omega, fun k k1 k2 => by omega, Or.inr (by omega), st⟩
/-- fault: both -/
theorem pj_fault {σ τ : pm_H} {w r r' : Int} (h : pj σ) (hr : r = pj_a (σ 1 15) (σ 31 3) (σ 31 4) (σ 31 2) (σ 1 16) w) (hr' : r' = pj_a (pj_h (σ 77 6)) (σ 77 6) (σ 77 7) (σ 77 8) (σ 77 9) w) : r = r' := by
  obtain ⟨a1, a2, a3, a4⟩ := h trivial
  rw [hr, hr']
  rcases a3 with ⟨b1, b2⟩ | ⟨b1, b2, b3, b4, b5, b6⟩
  · have z := pj_h_v (σ 77 6)
    rw [b1, show pj_h (σ 77 6) = 0 by omega]
    rfl
  · have z := pj_h_v (σ 77 6)
    rw [b1, b3, b4, b5, b6, show pj_h (σ 77 6) = 1 by omega]
theorem pt_by_n9 {σ : pm_H} {n n' : Int} (h : pt_by σ n) (e : n' ≤ n) : pt_by σ n' := fun t k k1 k2 => h t k k1 (by omega)
theorem pj_111 {σ : pm_H} {i v : Int} (h : pj σ) : pj (pm_up σ 111 i v) := pj_keep h ⟨congrFun (pu_ne (by decide)) 13, congrFun (pu_ne (by decide)) 15, congrFun (pu_ne (by decide)) 16, congrFun (pu_ne (by decide)) 2, congrFun (pu_ne (by decide)) 3, congrFun (pu_ne (by decide)) 4⟩ (pu_ne (by decide)) (congrFun (pu_ne (by decide)) 2) ⟨congrFun (pu_ne (by decide)) 6, congrFun (pu_ne (by decide)) 7, congrFun (pu_ne (by decide)) 8, congrFun (pu_ne (by decide)) 9⟩ (pu_ne (by decide)) (pu_ne (by decide)) (pu_ne (by decide)) (pu_ne (by decide))
end PR
