noncomputable def zcodes (a b c d : Nat) : Nat := Nat.add a (Nat.add (Nat.shiftLeft b 72) (Nat.add (Nat.shiftLeft c 144) (Nat.shiftLeft d 216)))
noncomputable def zok (r : zR) : Bool := Option.rec (motive := fun _ => Bool) false (fun o => cond (Nat.beq o.1 1) (Nat.beq o.2.1 8) false) r
noncomputable def ziv (l : List (Nat × Nat × Nat)) : Nat → Nat × Nat := fun j => List.rec (motive := fun _ => Nat × Nat) (0, 4294967295) (fun q _ ih => cond (Nat.beq q.1 j) q.2 ih) l
set_option maxRecDepth 100000 in
theorem zt_4 : zok (zE (ztab (zcodes 32 0 0 0) (ziv []) [] [] []) 1000000 30 0 [2] [] 0 0) = true := by decide +kernel
