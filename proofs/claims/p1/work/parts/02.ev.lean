/-! a small evaluator over numbers; what it finds holds of the machine (part 03 on) -/
abbrev zC : Type := Nat × Nat × Nat × Nat
abbrev zHp : Type := List zC
abbrev zOut : Type := Nat × Nat × zHp × Nat × Nat
abbrev zR : Type := Option zOut
abbrev zK : Type := Nat → List Nat → zHp → Nat → Nat → zR
abbrev zI : Type := zK → (Nat → zK) → zK
def zg (N i : Nat) : Nat := Nat.mod (Nat.shiftRight N (Nat.mul 72 i)) 4722366482869645213696
def zs (N i v : Nat) : Nat := Nat.xor N (Nat.shiftLeft (Nat.xor (zg N i) v) (Nat.mul 72 i))
theorem zg_lt (N i : Nat) : zg N i < 2 ^ 72 := Nat.mod_lt _ (by decide)
theorem zg_bit (N i j : Nat) : (zg N i).testBit j = (decide (j < 72) && N.testBit (72 * i + j)) := by
  show ((N >>> (72 * i)) % 2 ^ 72).testBit j = _
  rw [Nat.testBit_mod_two_pow, Nat.testBit_shiftRight]
theorem zg_zs (N i v j : Nat) (hv : v < 2 ^ 72) : zg (zs N i v) j = if j = i then v else zg N j := by
  apply Nat.eq_of_testBit_eq
  intro b
  rw [zg_bit]
  have e : (zs N i v).testBit (72 * j + b) = (N.testBit (72 * j + b) ^^ (decide (72 * i ≤ 72 * j + b) && ((zg N i).testBit (72 * j + b - 72 * i) ^^ v.testBit (72 * j + b - 72 * i)))) := by
    show (N ^^^ ((zg N i ^^^ v) <<< (72 * i))).testBit _ = _
    rw [Nat.testBit_xor, Nat.testBit_shiftLeft, Nat.testBit_xor]
  rw [e]
  have big : ∀ x, 72 ≤ x → (zg N i).testBit x = false ∧ v.testBit x = false := by
    intro x hx
    exact ⟨Nat.testBit_lt_two_pow (Nat.lt_of_lt_of_le (zg_lt N i) (Nat.pow_le_pow_right (by decide) hx)), Nat.testBit_lt_two_pow (Nat.lt_of_lt_of_le hv (Nat.pow_le_pow_right (by decide) hx))⟩
  by_cases hb : b < 72
  · by_cases hj : j = i
    · subst hj
      rw [if_pos rfl, Nat.add_sub_cancel_left, zg_bit]
      simp only [hb, decide_true, Bool.true_and, Nat.le_add_right]
      cases N.testBit (72 * j + b) <;> cases v.testBit b <;> rfl
    · rw [if_neg hj, zg_bit N j b]
      simp only [hb, decide_true, Bool.true_and]
      by_cases hl : 72 * i ≤ 72 * j + b
      · have h72 : 72 ≤ 72 * j + b - 72 * i := by omega
        obtain ⟨h1, h2⟩ := big _ h72
        rw [h1, h2]
        simp
      · simp [hl]
  · have hb' : 72 ≤ b := by omega
    simp only [hb, decide_false, Bool.false_and]
    by_cases hj : j = i
    · rw [if_pos hj]; exact ((big b hb').2).symm
    · rw [if_neg hj, zg_bit N j b]; simp [hb]
theorem zg_0 (i : Nat) : zg 0 i = 0 := by
  show (0 >>> (72 * i)) % _ = 0
  rw [Nat.zero_shiftRight]
/-- a code's value: 0 int, 1 a cell of the run, 2 a thing that was there, 3 null, 4 long, 5 float, 6 double, 7 an int of the script -/
def zvd (sz : Nat) (sv : Nat → Value) (ev : Nat → Int32) (v : Nat) : Value :=
  if v % 8 = 0 then .int (nI (v / 8)) else if v % 8 = 1 then .ref (sz + v / 8) else if v % 8 = 2 then sv (v / 8) else if v % 8 = 3 then .null
  else if v % 8 = 4 then .long (lN (v / 8)) else if v % 8 = 5 then .float (UInt32.ofNat (v / 8)) else if v % 8 = 6 then .double (UInt64.ofNat (v / 8)) else .int (ev (v / 8))
theorem zvd_0 {sz : Nat} {sv : Nat → Value} {ev : Nat → Int32} {v : Nat} (h : v % 8 = 0) : zvd sz sv ev v = .int (nI (v / 8)) := by unfold zvd; rw [if_pos h]
theorem zvd_1 {sz : Nat} {sv : Nat → Value} {ev : Nat → Int32} {v : Nat} (h : v % 8 = 1) : zvd sz sv ev v = .ref (sz + v / 8) := by unfold zvd; rw [if_neg (by omega), if_pos h]
theorem zvd_2 {sz : Nat} {sv : Nat → Value} {ev : Nat → Int32} {v : Nat} (h : v % 8 = 2) : zvd sz sv ev v = sv (v / 8) := by unfold zvd; rw [if_neg (by omega), if_neg (by omega), if_pos h]
theorem zvd_3 {sz : Nat} {sv : Nat → Value} {ev : Nat → Int32} {v : Nat} (h : v % 8 = 3) : zvd sz sv ev v = .null := by unfold zvd; rw [if_neg (by omega), if_neg (by omega), if_neg (by omega), if_pos h]
theorem zvd_4 {sz : Nat} {sv : Nat → Value} {ev : Nat → Int32} {v : Nat} (h : v % 8 = 4) : zvd sz sv ev v = .long (lN (v / 8)) := by unfold zvd; rw [if_neg (by omega), if_neg (by omega), if_neg (by omega), if_neg (by omega), if_pos h]
theorem zvd_5 {sz : Nat} {sv : Nat → Value} {ev : Nat → Int32} {v : Nat} (h : v % 8 = 5) : zvd sz sv ev v = .float (UInt32.ofNat (v / 8)) := by unfold zvd; rw [if_neg (by omega), if_neg (by omega), if_neg (by omega), if_neg (by omega), if_neg (by omega), if_pos h]
theorem zvd_6 {sz : Nat} {sv : Nat → Value} {ev : Nat → Int32} {v : Nat} (h : v % 8 = 6) : zvd sz sv ev v = .double (UInt64.ofNat (v / 8)) := by unfold zvd; rw [if_neg (by omega), if_neg (by omega), if_neg (by omega), if_neg (by omega), if_neg (by omega), if_neg (by omega), if_pos h]
theorem zvd_7 {sz : Nat} {sv : Nat → Value} {ev : Nat → Int32} {v : Nat} (h : v % 8 = 7) : zvd sz sv ev v = .int (ev (v / 8)) := by unfold zvd; rw [if_neg (by omega), if_neg (by omega), if_neg (by omega), if_neg (by omega), if_neg (by omega), if_neg (by omega), if_neg (by omega)]
/-! the instructions -/
noncomputable def zck (b : Bool) (r : zR) : zR := cond b r none
theorem zck_some {b : Bool} {r : zR} {o : zOut} (h : zck b r = some o) : b = true ∧ r = some o := by
  cases b
  · cases h
  · exact ⟨rfl, h⟩
/-- the top of the stack -/
noncomputable def zpop (st : List Nat) (k : Nat → List Nat → zR) : zR := List.rec (motive := fun _ => zR) none (fun v t _ => k v t) st
theorem zpop_some {st : List Nat} {k : Nat → List Nat → zR} {o : zOut} (h : zpop st k = some o) : ∃ v t, st = v :: t ∧ k v t = some o := by
  cases st with
  | nil => cases h
  | cons v t => exact ⟨v, t, rfl, h⟩
noncomputable def zt (v : Nat) (t : Nat) : Bool := Nat.beq (Nat.mod v 8) t
theorem zt_eq {v t : Nat} (h : zt v t = true) : v % 8 = t := Nat.eq_of_beq_eq_true h
noncomputable def zisI (v : Nat) : Bool := cond (zt v 0) true (zt v 7)
theorem zisI_eq {v : Nat} (h : zisI v = true) : v % 8 = 0 ∨ v % 8 = 7 := by
  unfold zisI at h
  cases h1 : zt v 0 with
  | true => exact Or.inl (zt_eq h1)
  | false => rw [h1] at h; exact Or.inr (zt_eq h)
noncomputable def zisA (v : Nat) : Bool := cond (zt v 1) true (cond (zt v 2) true (zt v 3))
theorem zisA_eq {v : Nat} (h : zisA v = true) : v % 8 = 1 ∨ v % 8 = 2 ∨ v % 8 = 3 := by
  unfold zisA at h
  cases h1 : zt v 1 with
  | true => exact Or.inl (zt_eq h1)
  | false =>
    rw [h1] at h
    cases h2 : zt v 2 with
    | true => exact Or.inr (Or.inl (zt_eq h2))
    | false =>
      have h' : zt v 3 = true := by simpa [h2] using h
      exact Or.inr (Or.inr (zt_eq h'))
theorem zI_int {sz : Nat} {sv : Nat → Value} {ev : Nat → Int32} {v : Nat} (h : zisI v = true) : ∃ x : Int32, zvd sz sv ev v = .int x := by
  rcases zisI_eq h with h | h
  · exact ⟨_, zvd_0 h⟩
  · exact ⟨_, zvd_7 h⟩
noncomputable def zPush (v : Nat) : zI := fun k _ L st hp n ns => k L (v :: st) hp n ns
noncomputable def zLd (ok : Nat → Bool) (i : Nat) : zI := fun k _ L st hp n ns => zck (Nat.ble 1 (zg L i)) (zck (ok (Nat.pred (zg L i))) (k L (Nat.pred (zg L i) :: st) hp n ns))
noncomputable def zLdI (i : Nat) : zI := zLd zisI i
noncomputable def zLdA (i : Nat) : zI := zLd zisA i
noncomputable def zLdL (i : Nat) : zI := zLd (fun v => zt v 4) i
/-- no long lies just below -/
noncomputable def znl (L i : Nat) : Bool := Nat.rec (motive := fun _ => Bool) true (fun j _ => cond (Nat.beq (Nat.mod (zg L j) 8) 5) false (cond (Nat.beq (Nat.mod (zg L j) 8) 7) false true)) i
noncomputable def zSt (ok : Nat → Bool) (nL i : Nat) : zI := fun k _ L st hp n ns => zpop st fun v t => zck (ok v) (zck (Nat.blt v 4722366482869645213695) (zck (Nat.blt i nL) (zck (znl L i) (k (zs L i (Nat.succ v)) t hp n ns))))
noncomputable def zStI (nL i : Nat) : zI := zSt zisI nL i
noncomputable def zStA (nL i : Nat) : zI := zSt zisA nL i
noncomputable def zStF (nL i : Nat) : zI := zSt (fun v => zt v 5) nL i
noncomputable def zSt2 (ok : Nat → Bool) (nL i : Nat) : zI := fun k _ L st hp n ns => zpop st fun v t => zck (ok v) (zck (Nat.blt v 4722366482869645213695) (zck (Nat.blt (Nat.succ i) nL) (zck (znl L i) (k (zs (zs L (Nat.succ i) 0) i (Nat.succ v)) t hp n ns))))
noncomputable def zStL (nL i : Nat) : zI := zSt2 (fun v => zt v 4) nL i
noncomputable def zStD (nL i : Nat) : zI := zSt2 (fun v => zt v 6) nL i
noncomputable def zmk (k : Nat) : Nat := Nat.mul 8 (Nat.mod k 4294967296)
noncomputable def zIinc (nL i d : Nat) : zI := fun k _ L st hp n ns => zck (Nat.ble 1 (zg L i)) (zck (zt (Nat.pred (zg L i)) 0) (zck (Nat.blt i nL) (zck (znl L i) (k (zs L i (Nat.succ (zmk (Nat.add (Nat.div (Nat.pred (zg L i)) 8) d)))) st hp n ns))))
noncomputable def zBin (f : Nat → Nat → Nat) : zI := fun k _ L st hp n ns => zpop st fun y t => zpop t fun x t => zck (zt x 0) (zck (zt y 0) (k L (zmk (f (Nat.div x 8) (Nat.div y 8)) :: t) hp n ns))
noncomputable def zGoto (tg : Nat) : zI := fun _ j L st hp n ns => j tg L st hp n ns
noncomputable def zDup : zI := fun k _ L st hp n ns => zpop st fun v t => zck (cond (zisI v) true (zisA v)) (k L (v :: v :: t) hp n ns)
noncomputable def zPop : zI := fun k _ L st hp n ns => zpop st fun v t => zck (cond (zisI v) true (zisA v)) (k L t hp n ns)
noncomputable def zDupX1 : zI := fun k _ L st hp n ns => zpop st fun v t => zpop t fun w t => zck (cond (zisI v) true (zisA v)) (zck (cond (zisI w) true (zisA w)) (k L (v :: w :: v :: t) hp n ns))
noncomputable def zDup2 : zI := fun k _ L st hp n ns => zpop st fun v t => zpop t fun w t => zck (cond (zisI v) true (zisA v)) (zck (cond (zisI w) true (zisA w)) (k L (v :: w :: v :: w :: t) hp n ns))
noncomputable def zRet0 : zI := fun _ _ _ st hp n ns => List.rec (motive := fun _ => zR) (some (0, 0, hp, n, ns)) (fun _ _ _ => none) st
noncomputable def zRetV (ok : Nat → Bool) : zI := fun _ _ _ st hp n ns => zpop st fun v t => zck (ok v) (List.rec (motive := fun _ => zR) (some (1, v, hp, n, ns)) (fun _ _ _ => none) t)
