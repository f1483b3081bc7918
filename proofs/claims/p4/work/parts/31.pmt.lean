/-! THE PURE MACHINE: what a run comes to: the least predicate that is closed under one instruction -/
section PMT
abbrev pm_Call : Type := Nat → List pm_V → pm_H → pm_Q → Prop
def pm_NG (call : pm_Call) (Q : pm_Q) (σ : pm_H) (X : pm_S → Prop) (o : pm_N) : Prop := match o with
  | .inl (g, l) => g ∧ ∀ c ∈ l, c.1 → X c.2
  | .inr (.inl (mi, as, k)) => call mi as σ (fun r τ => X (k r τ))
  | .inr (.inr (g, r)) => g ∧ Q r σ
def pm_F (ex : Nat → Bool) (E : pm_S → Prop) (own nL L : Nat) (cc : ByteArray) (ret : Option FieldType) (call : pm_Call) (Q : pm_Q) (X : pm_S → Prop) (S : pm_S) : Prop :=
  if ex S.1 = true then E S else match decode cc S.1 with
    | .ok (i, len) => match pm_op own nL L ret i len S.1 S.2.1 S.2.2.1 S.2.2.2 with
      | some o => pm_NG call Q S.2.2.2 X o
      | none => False
    | .error _ => False
def pm_mo (call : pm_Call) : Prop := ∀ (mi : Nat) (as : List pm_V) (σ : pm_H) (Q Q' : pm_Q), (∀ r τ, Q r τ → Q' r τ) → call mi as σ Q → call mi as σ Q'
theorem pm_F_mono {ex : Nat → Bool} {E E' : pm_S → Prop} {own nL L : Nat} {cc : ByteArray} {ret : Option FieldType} {call call' : pm_Call} {Q Q' : pm_Q} {X Y : pm_S → Prop} {S : pm_S} (hc : pm_mo call') (hcc : ∀ mi as σ Q, call mi as σ Q → call' mi as σ Q) (hE : ∀ S, E S → E' S) (hQ : ∀ r τ, Q r τ → Q' r τ) (hX : ∀ S, X S → Y S) (h : pm_F ex E own nL L cc ret call Q X S) : pm_F ex E' own nL L cc ret call' Q' Y S := by
  unfold pm_F at h ⊢
  split at h
  · rename_i hx
    rw [if_pos hx]
    exact hE _ h
  · rename_i hx
    rw [if_neg hx]
    split at h
    · rename_i i len hd
      split at h
      · rename_i o ho
        rcases o with ⟨g, l⟩ | ⟨mi, as, k⟩ | ⟨g, r⟩
        · exact ⟨h.1, fun c hc h1 => hX _ (h.2 c hc h1)⟩
        · exact hc _ _ _ _ _ (fun r τ => hX _) (hcc _ _ _ _ h)
        · exact ⟨h.1, hQ _ _ h.2⟩
      · exact h.elim
    · exact h.elim
def pm_T (ex : Nat → Bool) (E : pm_S → Prop) (own nL L : Nat) (cc : ByteArray) (ret : Option FieldType) (call : pm_Call) (Q : pm_Q) (S : pm_S) : Prop := ∀ X : pm_S → Prop, (∀ S, pm_F ex E own nL L cc ret call Q X S → X S) → X S
theorem pm_T_fold {ex : Nat → Bool} {E : pm_S → Prop} {own nL L : Nat} {cc : ByteArray} {ret : Option FieldType} {call : pm_Call} {Q : pm_Q} {S : pm_S} (hc : pm_mo call) (h : pm_F ex E own nL L cc ret call Q (pm_T ex E own nL L cc ret call Q) S) : pm_T ex E own nL L cc ret call Q S :=
  fun X hX => hX S (pm_F_mono hc (fun _ _ _ _ h => h) (fun _ h => h) (fun _ _ h => h) (fun S h => h X hX) h)
theorem pm_T_unfold {ex : Nat → Bool} {E : pm_S → Prop} {own nL L : Nat} {cc : ByteArray} {ret : Option FieldType} {call : pm_Call} {Q : pm_Q} {S : pm_S} (hc : pm_mo call) (h : pm_T ex E own nL L cc ret call Q S) : pm_F ex E own nL L cc ret call Q (pm_T ex E own nL L cc ret call Q) S :=
  h _ (fun _ h => pm_F_mono hc (fun _ _ _ _ h => h) (fun _ h => h) (fun _ _ h => h) (fun _ h => pm_T_fold hc h) h)
theorem pm_T_mono {ex : Nat → Bool} {E E' : pm_S → Prop} {own nL L : Nat} {cc : ByteArray} {ret : Option FieldType} {call call' : pm_Call} {Q Q' : pm_Q} {S : pm_S} (hc : pm_mo call') (hcc : ∀ mi as σ Q, call mi as σ Q → call' mi as σ Q) (hE : ∀ S, E S → E' S) (hQ : ∀ r τ, Q r τ → Q' r τ) (h : pm_T ex E own nL L cc ret call Q S) : pm_T ex E' own nL L cc ret call' Q' S :=
  h _ (fun _ h => pm_T_fold hc (pm_F_mono hc hcc hE hQ (fun _ h => h) h))
/-- arguments as locals -/
def pm_ent : Nat → List pm_V → pm_L
  | n, [] => List.replicate n none
  | n, a :: r => if pm_cat a = 2 then some a :: none :: pm_ent (n - 2) r else some a :: pm_ent (n - 1) r
def pm_ex0 : Nat → Bool := fun _ => false
def pm_E0 : pm_S → Prop := fun _ => False
def pm_dpf (mi : Nat) : Nat := pm_dp.getD mi 0
def pm_TerF : Nat → pm_Call
  | 0, _, _, _, _ => False
  | n + 1, mi, as, σ, Q => match ax_tab[mi]? with
    | none => False
    | some t => pm_words as ≤ t.2.2.1 ∧ pm_T pm_ex0 pm_E0 t.2.2.2.2.1.1 t.2.2.1 0 t.2.1 t.2.2.2.1 (fun mi' as' σ' Q' => pm_dpf mi' < pm_dpf mi ∧ pm_TerF n mi' as' σ' Q') Q (0, pm_ent t.2.2.1 as, [], σ)
theorem pm_TerF_mo : ∀ n, pm_mo (pm_TerF n)
  | 0 => fun _ _ _ _ _ _ h => h
  | n + 1 => by
    intro mi as σ Q Q' hQ h
    unfold pm_TerF at h ⊢
    split at h
    · exact h
    · rename_i t ht
      exact ⟨h.1, pm_T_mono (fun mi as σ Q Q' hQ h => ⟨h.1, pm_TerF_mo n mi as σ Q Q' hQ h.2⟩) (fun _ _ _ _ h => h) (fun _ h => h) hQ h.2⟩
theorem pm_TerF_stable : ∀ (d mi : Nat), pm_dpf mi ≤ d → ∀ (n : Nat), pm_dpf mi < n → ∀ as σ Q, pm_TerF n mi as σ Q ↔ pm_TerF (pm_dpf mi + 1) mi as σ Q := by
  intro d
  induction d with
  | zero =>
    intro mi hd n hn as σ Q
    obtain ⟨n, rfl⟩ : ∃ k, n = k + 1 := ⟨n - 1, by omega⟩
    have e : (fun (mi' : Nat) (as' : List pm_V) (σ' : pm_H) (Q' : pm_Q) => pm_dpf mi' < pm_dpf mi ∧ pm_TerF n mi' as' σ' Q') = (fun mi' as' σ' Q' => pm_dpf mi' < pm_dpf mi ∧ pm_TerF (pm_dpf mi) mi' as' σ' Q') := by
      funext mi' as' σ' Q'
      exact propext ⟨fun h => by omega, fun h => by omega⟩
    unfold pm_TerF
    rw [e]
  | succ d ih =>
    intro mi hd n hn as σ Q
    obtain ⟨n, rfl⟩ : ∃ k, n = k + 1 := ⟨n - 1, by omega⟩
    have e : (fun (mi' : Nat) (as' : List pm_V) (σ' : pm_H) (Q' : pm_Q) => pm_dpf mi' < pm_dpf mi ∧ pm_TerF n mi' as' σ' Q') = (fun mi' as' σ' Q' => pm_dpf mi' < pm_dpf mi ∧ pm_TerF (pm_dpf mi) mi' as' σ' Q') := by
      funext mi' as' σ' Q'
      refine propext ⟨fun h => ⟨h.1, ?_⟩, fun h => ⟨h.1, ?_⟩⟩
      · rw [ih mi' (by omega) _ h.1, ← ih mi' (by omega) n (by omega)]; exact h.2
      · rw [ih mi' (by omega) n (by omega), ← ih mi' (by omega) _ h.1]; exact h.2
    unfold pm_TerF
    rw [e]
/-- method mi, from these arguments and this heap, ends, and Q holds of its answer and the heap behind it -/
def pm_Ter (mi : Nat) (as : List pm_V) (σ : pm_H) (Q : pm_Q) : Prop := pm_TerF (pm_dpf mi + 1) mi as σ Q
theorem pm_mono {mi : Nat} {as : List pm_V} {σ : pm_H} {Q Q' : pm_Q} (h : pm_Ter mi as σ Q) (hQ : ∀ r τ, Q r τ → Q' r τ) : pm_Ter mi as σ Q' := pm_TerF_mo _ _ _ _ _ _ hQ h
def pm_call (d : Nat) : pm_Call := fun mi as σ Q => pm_dpf mi < d ∧ pm_Ter mi as σ Q
theorem pm_call_mo (d : Nat) : pm_mo (pm_call d) := fun _ _ _ _ _ hQ h => ⟨h.1, pm_mono h.2 hQ⟩
/-- at pc in method mi -/
def pm_R (mi : Nat) (Q : pm_Q) (pc : Nat) (lv : pm_L) (st : List pm_V) (σ : pm_H) : Prop := match ax_tab[mi]? with
  | none => False
  | some t => pm_T pm_ex0 pm_E0 t.2.2.2.2.1.1 t.2.2.1 0 t.2.1 t.2.2.2.1 (pm_call (pm_dpf mi)) Q (pc, lv, st, σ)
theorem pm_Ter_eq {mi : Nat} {t : ax_T} (ht : ax_tab[mi]? = some t) (as : List pm_V) (σ : pm_H) (Q : pm_Q) : pm_Ter mi as σ Q = (pm_words as ≤ t.2.2.1 ∧ pm_R mi Q 0 (pm_ent t.2.2.1 as) [] σ) := by
  have e : (fun (mi' : Nat) (as' : List pm_V) (σ' : pm_H) (Q' : pm_Q) => pm_dpf mi' < pm_dpf mi ∧ pm_TerF (pm_dpf mi) mi' as' σ' Q') = pm_call (pm_dpf mi) := by
    funext mi' as' σ' Q'
    refine propext ⟨fun h => ⟨h.1, ?_⟩, fun h => ⟨h.1, ?_⟩⟩
    · exact (pm_TerF_stable _ mi' (Nat.le_refl _) _ h.1 _ _ _).mp h.2
    · exact (pm_TerF_stable _ mi' (Nat.le_refl _) _ h.1 _ _ _).mpr h.2
  unfold pm_Ter pm_R pm_TerF
  rw [e, ht]
/-- one instruction of a method, as an equation -/
theorem pm_R_eq {mi : Nat} {t : ax_T} (ht : ax_tab[mi]? = some t) (Q : pm_Q) {pc len : Nat} {i : Instr} (hd : decode t.2.1 pc = .ok (i, len)) (lv : pm_L) (st : List pm_V) (σ : pm_H) : pm_R mi Q pc lv st σ = (match pm_op t.2.2.2.2.1.1 t.2.2.1 0 t.2.2.2.1 i len pc lv st σ with
      | some o => pm_NG (pm_call (pm_dpf mi)) Q σ (fun S => pm_R mi Q S.1 S.2.1 S.2.2.1 S.2.2.2) o
      | none => False) := by
  have e : (fun S : pm_S => pm_R mi Q S.1 S.2.1 S.2.2.1 S.2.2.2) = pm_T pm_ex0 pm_E0 t.2.2.2.2.1.1 t.2.2.1 0 t.2.1 t.2.2.2.1 (pm_call (pm_dpf mi)) Q := by
    funext S
    unfold pm_R
    rw [ht]
  have e2 : pm_R mi Q pc lv st σ = pm_F pm_ex0 pm_E0 t.2.2.2.2.1.1 t.2.2.1 0 t.2.1 t.2.2.2.1 (pm_call (pm_dpf mi)) Q (pm_T pm_ex0 pm_E0 t.2.2.2.2.1.1 t.2.2.1 0 t.2.1 t.2.2.2.1 (pm_call (pm_dpf mi)) Q) (pc, lv, st, σ) := by
    have e3 := congrFun e (pc, lv, st, σ)
    dsimp only at e3
    rw [e3]
    exact propext ⟨pm_T_unfold (pm_call_mo _), pm_T_fold (pm_call_mo _)⟩
  rw [e2, e]
  unfold pm_F
  rw [if_neg (by unfold pm_ex0; decide)]
  dsimp only
  rw [hd]
end PMT
