/-! ===== seating: the class's orders are the codes that pass ===== -/
def hz_ords (n : Nat) : Nat → Nat → List (List Nat)
  | 0, _ => []
  | m + 1, c => if hz_ok (hz_dg n n c []) 0 then hz_dg n n c [] :: hz_ords n m (c + 1) else hz_ords n m (c + 1)
def hz_chain (n : Nat) : List (List Nat) → Bool
  | [] => true
  | [L] => hz_nx n L == none
  | L :: L' :: r => hz_nx n L == some L' && hz_chain n (L' :: r)
def hz_allok (n : Nat) : Bool :=
  let l := hz_ords n (n ^ n) 0
  hz_chain n l && l.head? == some (List.range n) && Nat.ble l.length 720
theorem hz_all1 : hz_allok 1 = true ∧ hz_allok 2 = true ∧ hz_allok 3 = true ∧ hz_allok 4 = true := by decide +kernel
theorem hz_all5 : hz_allok 5 = true := by decide +kernel
theorem hz_all6 : hz_allok 6 = true := by decide +kernel
