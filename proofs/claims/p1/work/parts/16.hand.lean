/-! a call in a method with a table: what is caught ends the method with a number -/
noncomputable def zCallH (cal : zCal) (ci : Nat) (js : List Nat) (i na : Nat) (hl : List (Nat × Nat)) : zI := fun k _ L st hp n ns => ztake na st [] fun as rest => zck (zfew rest) (zrcv ci js as hp (zbind (cal i as hp n ns) fun o => zout o (k L rest o.2.2.1 o.2.2.2.1 o.2.2.2.2) (k L (o.2.1 :: rest) o.2.2.1 o.2.2.2.1 o.2.2.2.2) (zasc o.2.1 hl fun v => some (1, v, o.2.2.1, o.2.2.2.1, o.2.2.2.2))))
/-- the script's first int, by its lowest six places -/
noncomputable def zAndO (opc : Nat) : zI := fun k _ L st hp n ns => zpop st fun y t => zpop t fun x t => zck (Nat.beq x 7) (zck (Nat.beq y 504) (k L (Nat.mul 8 opc :: t) hp n ns))
/-- 0 moved down by any number is 0 -/
noncomputable def zShrS : zI := fun k j L st hp n ns => zpop st fun y t => zpop t fun x t => cond (zt y 7) (zck (Nat.beq x 0) (k L (0 :: t) hp n ns)) (zck (zt x 0) (zck (zt y 0) (zck (Nat.blt x 17179869184) (k L (zmk (Nat.shiftRight (Nat.div x 8) (Nat.mod (Nat.div y 8) 32)) :: t) hp n ns))))
