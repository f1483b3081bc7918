/-! THE LAW, ABSTRACTLY: two states compared; its runs, decided by the kernel -/
section AXCHK
def ax_dV : DecidableEq ax_V := inferInstance
def ax_dO : DecidableEq ax_O := inferInstance
def ax_d1 : DecidableEq (ax_V × Option Nat) := @instDecidableEqProd _ _ ax_dV inferInstance
def ax_d2 : DecidableEq (Nat × (ax_V × Option Nat)) := @instDecidableEqProd _ _ inferInstance ax_d1
def ax_dL : DecidableEq ax_L := @instDecidableEqList _ ax_d2
def ax_d3 : DecidableEq (ax_V × ax_O) := @instDecidableEqProd _ _ ax_dV ax_dO
def ax_dK : DecidableEq ax_K := @instDecidableEqList _ ax_d3
def ax_dLV : DecidableEq (List ax_V) := @instDecidableEqList _ ax_dV
def ax_d4 : DecidableEq (Nat × List ax_V) := @instDecidableEqProd _ _ inferInstance ax_dLV
def ax_d5 : DecidableEq (ax_I ⊕ (ax_I ⊕ List (Option Nat))) := inferInstance
def ax_d6 : DecidableEq ((FieldType × Nat) × (ax_I ⊕ (ax_I ⊕ List (Option Nat)))) := @instDecidableEqProd _ _ inferInstance ax_d5
def ax_dC : DecidableEq ax_C := @instDecidableEqSum _ _ ax_d4 ax_d6
def ax_dLC : DecidableEq (List ax_C) := @instDecidableEqList _ ax_dC
def ax_dS1 : DecidableEq (List ax_V × (Nat × Nat)) := @instDecidableEqProd _ _ ax_dLV inferInstance
def ax_dS2 : DecidableEq (List ax_C × (List ax_V × (Nat × Nat))) := @instDecidableEqProd _ _ ax_dLC ax_dS1
def ax_dS3 : DecidableEq (ax_K × (List ax_C × (List ax_V × (Nat × Nat)))) := @instDecidableEqProd _ _ ax_dK ax_dS2
def ax_dS4 : DecidableEq (ax_L × (ax_K × (List ax_C × (List ax_V × (Nat × Nat))))) := @instDecidableEqProd _ _ ax_dL ax_dS3
def ax_is (r : Option (List ax_S)) (S : ax_S) : Bool := match r with
  | some [T] => decide (T.1 = S.1) && @decide (T.2 = S.2) (ax_dS4 T.2 S.2)
  | _ => false
theorem ax_is_ok {r : Option (List ax_S)} {S : ax_S} (h : ax_is r S = true) : r = some [S] := by
  unfold ax_is at h
  split at h
  · rename_i T
    simp only [Bool.and_eq_true, decide_eq_true_eq] at h
    have e1 : T.1 = S.1 := h.1
    have e2 : T.2 = S.2 := h.2
    rw [Prod.ext e1 e2]
  · cases h
def ax_swk (r : Option (List ax_S)) : Bool := match r with
  | some l => l.all (fun S => @decide (S.2 = (ax_SB 0).2) (ax_dS4 S.2 (ax_SB 0).2) && ax_tl.contains S.1)
  | none => false

set_option maxRecDepth 1000000 in
theorem ax_k_head : ax_is (ax_run (ax_lstp 0) (fun pc => pc == 23) 2000 [ax_S0] []) ax_SH = true := by decide +kernel
set_option maxRecDepth 1000000 in
theorem ax_k_short : (List.range 8).all (fun L => ax_ends (ax_run (ax_lstp (L + 1)) (fun pc => pc == 1372) 100 [ax_SH] [])) = true := by decide +kernel
set_option maxRecDepth 1000000 in
theorem ax_k_switch : ax_swk (ax_run (ax_lstp 9) (fun pc => ax_tl.contains pc) 200 [ax_SB 23] []) = true := by decide +kernel
set_option maxRecDepth 1000000 in
theorem ax_k_out : ax_is (ax_run (ax_lstp 9) (fun pc => pc == 364) 200 [ax_SB 356] []) ax_SO = true := by decide +kernel
set_option maxRecDepth 1000000 in
theorem ax_k_outend : ax_ends (ax_run (ax_lstp 9) (fun pc => pc == 1372) 5000 [ax_SP] []) = true := by decide +kernel
set_option maxRecDepth 1000000 in
theorem ax_k_294 : ax_ends (ax_run (ax_lstp 9) (fun pc => pc == 1372) 30000 [ax_SB 294] []) = true := by decide +kernel
set_option maxRecDepth 1000000 in
theorem ax_k_1365 : ax_ends (ax_run (ax_lstp 9) (fun pc => pc == 1372) 30000 [ax_SB 1365] []) = true := by decide +kernel
end AXCHK
