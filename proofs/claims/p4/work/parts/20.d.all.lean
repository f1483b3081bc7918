/-! in pairs, all -/
section PCQ
def pc_fk (F : pc_M) : Bool := pc_eqb F (pc_F (F.1) (F.2.2.2.2.1) (F.2.2.2.2.2.2.2.2) (F.2.2.2.2.2.1) (F.2.2.1) (F.2.1)) && pc_fok (F.1) (F.2.2.2.2.1) (F.2.2.2.2.2.2.2.2) (F.2.2.2.2.2.1) (F.2.2.1) (F.2.1)
def pc_fs : List (List pc_M) := [pc_f0, pc_f1, pc_f2, pc_f3, pc_f4, pc_f5, pc_f6, pc_f7, pc_f8, pc_f9, pc_f10, pc_f11, pc_f12, pc_f13, pc_f14, pc_f15, pc_f16, pc_f17, pc_f18, pc_f19, pc_f20, pc_f21, pc_f22, pc_f23, pc_f24, pc_f25, pc_f26, pc_f27, pc_f28, pc_f29, pc_f30, pc_f31, pc_f32, pc_f33, pc_f34, pc_f35, pc_f36, pc_f37, pc_f38, pc_f39, pc_f40, pc_f41]
theorem pc_fs_ok : pc_fs.all (fun l => l.all pc_fk) = true := by decide +kernel
theorem pc_fs_mem (r : Nat) (hr : r < 42) : ∀ F, F ∈ pc_fs.getD r [] → pc_fk F = true := by
  intro F hF
  have hl : r < pc_fs.length := hr
  have e : pc_fs.getD r [] = pc_fs[r] := by
    rw [List.getD_eq_getElem?_getD, List.getElem?_eq_getElem hl]
    rfl
  rw [e] at hF
  exact List.all_eq_true.mp (List.all_eq_true.mp pc_fs_ok _ (List.getElem_mem hl)) F hF
theorem pc_two : ∀ r, r < 42 → pc_L.all (pc_ok (pc_fs.getD r []) (pc_R.getD r pc_1)) = true
  | 0, _ => pc_ok0
  | 1, _ => pc_ok1
  | 2, _ => pc_ok2
  | 3, _ => pc_ok3
  | 4, _ => pc_ok4
  | 5, _ => pc_ok5
  | 6, _ => pc_ok6
  | 7, _ => pc_ok7
  | 8, _ => pc_ok8
  | 9, _ => pc_ok9
  | 10, _ => pc_ok10
  | 11, _ => pc_ok11
  | 12, _ => pc_ok12
  | 13, _ => pc_ok13
  | 14, _ => pc_ok14
  | 15, _ => pc_ok15
  | 16, _ => pc_ok16
  | 17, _ => pc_ok17
  | 18, _ => pc_ok18
  | 19, _ => pc_ok19
  | 20, _ => pc_ok20
  | 21, _ => pc_ok21
  | 22, _ => pc_ok22
  | 23, _ => pc_ok23
  | 24, _ => pc_ok24
  | 25, _ => pc_ok25
  | 26, _ => pc_ok26
  | 27, _ => pc_ok27
  | 28, _ => pc_ok28
  | 29, _ => pc_ok29
  | 30, _ => pc_ok30
  | 31, _ => pc_ok31
  | 32, _ => pc_ok32
  | 33, _ => pc_ok33
  | 34, _ => pc_ok34
  | 35, _ => pc_ok35
  | 36, _ => pc_ok36
  | 37, _ => pc_ok37
  | 38, _ => pc_ok38
  | 39, _ => pc_ok39
  | 40, _ => pc_ok40
  | 41, _ => pc_ok41
  | n + 42, h => absurd h (by omega)
end PCQ
