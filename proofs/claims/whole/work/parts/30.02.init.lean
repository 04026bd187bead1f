/-! the beginning -/
def s00 : Sk := (fun _ _ => 0, fun _ => 0, fun _ => 0, 0)
def i00 : II := fun _ _ => 0
abbrev FU : Nat := 70001
def ini1 : Option (Sk × II) := f_X10_init FU (nwS s00 10 0) (nwI s00 i00) 0
def ini2 : Option (Sk × II) := ini1.bind fun q => f_X11_init FU (nwS q.1 11 0) (nwI q.1 q.2) q.1.2.2.2
theorem ini1_n : (ini1.map fun q => q.1.2.2.2) = some 38 := by decide +kernel
theorem ini2_n : (ini2.map fun q => q.1.2.2.2) = some 77 := by decide +kernel
theorem ini2_S : (ini2.map fun q => (List.range 77).all fun a => (List.range (stT.getD a []).length).all fun k => (stT.getD a []).getD k 0 == 0 || q.1.1 a k == (stT.getD a []).getD k 0) = some true := by decide +kernel
theorem ini2_N : (ini2.map fun q => (List.range 77).all fun a => stLn.getD a 0 == 0 || q.1.2.2.1 a == stLn.getD a 0) = some true := by decide +kernel
theorem ini2_I : (ini2.map fun q => (q.2 38 1 == 0 && q.2 1 3 == 0 && q.2 38 4 == 0 && q.2 1 5 == 0 && q.2 38 15 == 0 && q.2 0 2 == 0 && q.2 38 22 == 0 && q.2 0 4 == 0 && q.2 38 34 == 0 && q.2 0 7 == 0 && q.2 38 36 == 0 && q.2 0 9 == 0 && q.2 38 45 == 0 && q.2 0 11 == 0) && (q.2 0 13 == 0 && q.2 38 47 == 0 && q.2 38 51 == 40 && q.2 0 15 == 40 && q.2 0 17 == q.2 38 56 && q.2 0 18 == q.2 38 0) && ((List.range 6).all fun d => q.2 14 d == 0 && q.2 69 d == 0) && ((List.range 14).all fun l => q.2 48 l == 0) && ((List.range 112).all fun j => q.2 50 j == 0) && ((List.range 4).all fun k => q.2 (30 + 2 * k) 0 == 0 && q.2 73 k == -1)) = some true := by decide +kernel
