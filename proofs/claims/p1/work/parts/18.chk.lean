/-! THE LAW, ABSTRACTLY: two states compared; its runs, decided by the kernel -/
section AXCHK
def ax_dO : DecidableEq ax_O := inferInstance
def ax_d1 : DecidableEq (ax_V × Option Nat) := @instDecidableEqProd _ _ ax_dV inferInstance
def ax_d2 : DecidableEq (Nat × (ax_V × Option Nat)) := @instDecidableEqProd _ _ inferInstance ax_d1
def ax_dL : DecidableEq ax_L := @instDecidableEqList _ ax_d2
def ax_d3 : DecidableEq (ax_V × ax_O) := @instDecidableEqProd _ _ ax_dV ax_dO
def ax_dK : DecidableEq ax_K := @instDecidableEqList _ ax_d3
def ax_dS1 : DecidableEq (List ax_V × (Nat × Nat)) := @instDecidableEqProd _ _ ax_dLV inferInstance
def ax_dS2 : DecidableEq (List ax_C × (List ax_V × (Nat × Nat))) := @instDecidableEqProd _ _ ax_dLC ax_dS1
def ax_dS3 : DecidableEq (ax_K × (List ax_C × (List ax_V × (Nat × Nat)))) := @instDecidableEqProd _ _ ax_dK ax_dS2
def ax_dS4 : DecidableEq (ax_L × (ax_K × (List ax_C × (List ax_V × (Nat × Nat))))) := @instDecidableEqProd _ _ ax_dL ax_dS3
def ax_is (r : Option (List ax_S)) (S : ax_S) : Bool := match r with
  | some [T] => decide (T.1 = S.1) && @decide (T.2 = S.2) (ax_dS4 T.2 S.2)
  | _ => false
theorem ax_is_ok {r : Option (List ax_S)} {S : ax_S} (h : ax_is r S = true) : r = some [S] := by
  unfold ax_is at h
  split at h
  · rename_i T
    simp only [Bool.and_eq_true, decide_eq_true_eq] at h
    have e1 : T.1 = S.1 := h.1
    have e2 : T.2 = S.2 := h.2
    rw [Prod.ext e1 e2]
  · cases h
def ax_swk (r : Option (List ax_S)) : Bool := match r with
  | some l => l.all (fun S => @decide (S.2 = (ax_SB 0).2) (ax_dS4 S.2 (ax_SB 0).2) && ax_tl.contains S.1)
  | none => false

set_option maxRecDepth 1000000 in
theorem ax_k_head : ax_is (ax_run (ax_lstp 0) (fun pc => pc == 23) 2000 [ax_S0] []) ax_SH = true := by decide +kernel
set_option maxRecDepth 1000000 in
theorem ax_k_short : (List.range 8).all (fun L => ax_ends (ax_run (ax_lstp (L + 1)) (fun pc => pc == 1372) 100 [ax_SH] [])) = true := by decide +kernel
set_option maxRecDepth 1000000 in
theorem ax_k_switch : ax_swk (ax_run (ax_lstp 9) (fun pc => ax_tl.contains pc) 200 [ax_SB 23] []) = true := by decide +kernel
set_option maxRecDepth 1000000 in
theorem ax_k_out : ax_is (ax_run (ax_lstp 9) (fun pc => pc == 364) 200 [ax_SB 356] []) ax_SO = true := by decide +kernel
set_option maxRecDepth 1000000 in
theorem ax_k_outend : ax_ends (ax_run (ax_lstp 9) (fun pc => pc == 1372) 5000 [ax_SP] []) = true := by decide +kernel
set_option maxRecDepth 1000000 in
theorem ax_k_156 : ax_ends (ax_run (ax_lstp 9) (fun pc => pc == 1372) 30000 [ax_SB 156] []) = true := by decide +kernel
set_option maxRecDepth 1000000 in
theorem ax_k_229 : ax_ends (ax_run (ax_lstp 9) (fun pc => pc == 1372) 30000 [ax_SB 229] []) = true := by decide +kernel
set_option maxRecDepth 1000000 in
theorem ax_k_294 : ax_ends (ax_run (ax_lstp 9) (fun pc => pc == 1372) 30000 [ax_SB 294] []) = true := by decide +kernel
set_option maxRecDepth 1000000 in
theorem ax_k_319 : ax_ends (ax_run (ax_lstp 9) (fun pc => pc == 1372) 30000 [ax_SB 319] []) = true := by decide +kernel
set_option maxRecDepth 1000000 in
theorem ax_k_412 : ax_ends (ax_run (ax_lstp 9) (fun pc => pc == 1372) 30000 [ax_SB 412] []) = true := by decide +kernel
set_option maxRecDepth 1000000 in
theorem ax_k_449 : ax_ends (ax_run (ax_lstp 9) (fun pc => pc == 1372) 30000 [ax_SB 449] []) = true := by decide +kernel
set_option maxRecDepth 1000000 in
theorem ax_k_498 : ax_ends (ax_run (ax_lstp 9) (fun pc => pc == 1372) 30000 [ax_SB 498] []) = true := by decide +kernel
set_option maxRecDepth 1000000 in
theorem ax_k_547 : ax_ends (ax_run (ax_lstp 9) (fun pc => pc == 1372) 30000 [ax_SB 547] []) = true := by decide +kernel
set_option maxRecDepth 1000000 in
theorem ax_k_596 : ax_ends (ax_run (ax_lstp 9) (fun pc => pc == 1372) 30000 [ax_SB 596] []) = true := by decide +kernel
set_option maxRecDepth 1000000 in
theorem ax_k_633 : ax_ends (ax_run (ax_lstp 9) (fun pc => pc == 1372) 30000 [ax_SB 633] []) = true := by decide +kernel
set_option maxRecDepth 1000000 in
theorem ax_k_682 : ax_ends (ax_run (ax_lstp 9) (fun pc => pc == 1372) 30000 [ax_SB 682] []) = true := by decide +kernel
set_option maxRecDepth 1000000 in
theorem ax_k_719 : ax_ends (ax_run (ax_lstp 9) (fun pc => pc == 1372) 30000 [ax_SB 719] []) = true := by decide +kernel
set_option maxRecDepth 1000000 in
theorem ax_k_768 : ax_ends (ax_run (ax_lstp 9) (fun pc => pc == 1372) 30000 [ax_SB 768] []) = true := by decide +kernel
set_option maxRecDepth 1000000 in
theorem ax_k_805 : ax_ends (ax_run (ax_lstp 9) (fun pc => pc == 1372) 30000 [ax_SB 805] []) = true := by decide +kernel
set_option maxRecDepth 1000000 in
theorem ax_k_866 : ax_ends (ax_run (ax_lstp 9) (fun pc => pc == 1372) 30000 [ax_SB 866] []) = true := by decide +kernel
set_option maxRecDepth 1000000 in
theorem ax_k_903 : ax_ends (ax_run (ax_lstp 9) (fun pc => pc == 1372) 30000 [ax_SB 903] []) = true := by decide +kernel
set_option maxRecDepth 1000000 in
theorem ax_k_968 : ax_ends (ax_run (ax_lstp 9) (fun pc => pc == 1372) 30000 [ax_SB 968] []) = true := by decide +kernel
set_option maxRecDepth 1000000 in
theorem ax_k_1069 : ax_ends (ax_run (ax_lstp 9) (fun pc => pc == 1372) 30000 [ax_SB 1069] []) = true := by decide +kernel
set_option maxRecDepth 1000000 in
theorem ax_k_1095 : ax_ends (ax_run (ax_lstp 9) (fun pc => pc == 1372) 30000 [ax_SB 1095] []) = true := by decide +kernel
set_option maxRecDepth 1000000 in
theorem ax_k_1168 : ax_ends (ax_run (ax_lstp 9) (fun pc => pc == 1372) 30000 [ax_SB 1168] []) = true := by decide +kernel
set_option maxRecDepth 1000000 in
theorem ax_k_1205 : ax_ends (ax_run (ax_lstp 9) (fun pc => pc == 1372) 30000 [ax_SB 1205] []) = true := by decide +kernel
set_option maxRecDepth 1000000 in
theorem ax_k_1230 : ax_ends (ax_run (ax_lstp 9) (fun pc => pc == 1372) 30000 [ax_SB 1230] []) = true := by decide +kernel
set_option maxRecDepth 1000000 in
theorem ax_k_1255 : ax_ends (ax_run (ax_lstp 9) (fun pc => pc == 1372) 30000 [ax_SB 1255] []) = true := by decide +kernel
set_option maxRecDepth 1000000 in
theorem ax_k_1328 : ax_ends (ax_run (ax_lstp 9) (fun pc => pc == 1372) 30000 [ax_SB 1328] []) = true := by decide +kernel
set_option maxRecDepth 1000000 in
theorem ax_k_1365 : ax_ends (ax_run (ax_lstp 9) (fun pc => pc == 1372) 30000 [ax_SB 1365] []) = true := by decide +kernel
end AXCHK
