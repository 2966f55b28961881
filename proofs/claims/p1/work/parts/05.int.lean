/-! numbers for ints -/
theorem zi_mod (k : Nat) : nI (k % 4294967296) = nI k := by
  apply Int32.toBitVec_inj.mp
  apply BitVec.eq_of_toNat_eq
  show (BitVec.ofNat 32 _).toNat = (BitVec.ofNat 32 _).toNat
  rw [BitVec.toNat_ofNat, BitVec.toNat_ofNat]
  omega
theorem zmk_t (k : Nat) : zmk k % 8 = 0 := by show 8 * (k % 4294967296) % 8 = 0; omega
theorem zmk_v {sz : Nat} {sv : Nat → Value} {ev : Nat → Int32} (k : Nat) : zvd sz sv ev (zmk k) = .int (nI k) := by
  rw [zvd_0 (zmk_t k)]
  have : zmk k / 8 = k % 4294967296 := by show 8 * (k % 4294967296) / 8 = _; omega
  rw [this, zi_mod]
theorem zi_tb (k : Nat) : (nI k).toBitVec = BitVec.ofNat 32 k := rfl
theorem zi_ext {x y : Int32} (h : x.toBitVec.toNat = y.toBitVec.toNat) : x = y := Int32.toBitVec_inj.mp (BitVec.eq_of_toNat_eq h)
theorem zi_tn (k : Nat) : (nI k).toBitVec.toNat = k % 2 ^ 32 := by rw [zi_tb, BitVec.toNat_ofNat]
def zfSub (a b : Nat) : Nat := Nat.add a (Nat.sub 4294967296 (Nat.mod b 4294967296))
theorem zi_sub (a b : Nat) : nI a - nI b = nI (zfSub a b) := by
  have h : nI (zfSub a b) + nI b = nI a := by
    rw [nI_add]
    have e : zfSub a b + b = a + 4294967296 * (b / 4294967296 + 1) := by
      show a + (4294967296 - b % 4294967296) + b = _
      omega
    rw [e, ← zi_mod, Nat.add_mul_mod_self_left, zi_mod]
  rw [← h, Int32.add_sub_cancel]
theorem zi_and (a b : Nat) : nI a &&& nI b = nI (Nat.land a b) := by
  apply Int32.toBitVec_inj.1
  show BitVec.ofNat 32 a &&& BitVec.ofNat 32 b = BitVec.ofNat 32 (a &&& b)
  apply BitVec.eq_of_getLsbD_eq
  intro i hi
  simp [hi]
theorem zi_or (a b : Nat) : nI a ||| nI b = nI (Nat.lor a b) := by
  apply Int32.toBitVec_inj.1
  show BitVec.ofNat 32 a ||| BitVec.ofNat 32 b = BitVec.ofNat 32 (a ||| b)
  apply BitVec.eq_of_getLsbD_eq
  intro i hi
  simp [hi]
theorem zi_xor (a b : Nat) : nI a ^^^ nI b = nI (Nat.xor a b) := by
  apply Int32.toBitVec_inj.1
  show BitVec.ofNat 32 a ^^^ BitVec.ofNat 32 b = BitVec.ofNat 32 (a ^^^ b)
  apply BitVec.eq_of_getLsbD_eq
  intro i hi
  simp [hi]
theorem zi_sh31 (b : Nat) : nI b &&& 31 = nI (b % 32) := by
  rw [show (31 : Int32) = nI 31 from rfl, zi_and]
  show nI (b &&& 2 ^ 5 - 1) = _
  rw [Nat.and_two_pow_sub_one_eq_mod]
theorem zi_s : ∀ n, n < 32 → ((nI n).toBitVec.smod 32).toNat = n := by decide +kernel
theorem zi_u : ∀ n, n < 32 → (((nI n).toUInt32 &&& Int32.toUInt32 31).toBitVec % 32).toNat = n := by decide +kernel
def zfShl (a b : Nat) : Nat := Nat.shiftLeft a (Nat.mod b 32)
theorem zi_shl (a b : Nat) : nI a <<< (nI b &&& 31) = nI (zfShl a b) := by
  apply zi_ext
  rw [zi_sh31, pk_shl _ _ (b % 32) (zi_s _ (Nat.mod_lt _ (by decide))), zi_tn, zi_tn]
  show a % 2 ^ 32 * 2 ^ (b % 32) % 2 ^ 32 = (a <<< (b % 32)) % 2 ^ 32
  rw [Nat.shiftLeft_eq, Nat.mul_mod, Nat.mod_mod, ← Nat.mul_mod]
def zfUshr (a b : Nat) : Nat := Nat.shiftRight (Nat.mod a 4294967296) (Nat.mod b 32)
theorem zi_uu (b : Nat) : ((nI b).toUInt32 &&& Int32.toUInt32 31).toBitVec.toNat = b % 32 := by
  show (BitVec.ofNat 32 b &&& 31#32).toNat = _
  rw [BitVec.toNat_and, BitVec.toNat_ofNat]
  show b % 2 ^ 32 &&& 2 ^ 5 - 1 = _
  rw [Nat.and_two_pow_sub_one_eq_mod]
  omega
theorem zi_ushr (a b : Nat) : ((nI a).toUInt32 >>> ((nI b).toUInt32 &&& Int32.toUInt32 31)).toInt32 = nI (zfUshr a b) := by
  apply zi_ext
  rw [pk_ushr (nI a) (nI b) (b % 32) (by rw [BitVec.toNat_umod, zi_uu]; show b % 32 % 32 = _; omega), zi_tn, zi_tn]
  show a % 2 ^ 32 / 2 ^ (b % 32) = (a % 4294967296) >>> (b % 32) % 2 ^ 32
  rw [Nat.shiftRight_eq_div_pow, Nat.mod_eq_of_lt (a := _ / _)]
  exact Nat.lt_of_le_of_lt (Nat.div_le_self _ _) (Nat.mod_lt _ (by decide))
def zfNeg (a : Nat) : Nat := Nat.sub 4294967296 (Nat.mod a 4294967296)
theorem zi_neg (a : Nat) : -nI a = nI (zfNeg a) := by
  have h := zi_sub 0 a
  have e : nI 0 - nI a = -nI a := by rw [nI_0]; exact Int32.zero_sub _
  rw [← e, h]
  exact congrArg nI (by show 0 + (4294967296 - a % 4294967296) = _; rw [Nat.zero_add]; rfl)
/-! comparing: ints as numbers that rise with them -/
def zbi (x : Int32) : Nat := (x.toInt + 2147483648).toNat
theorem zbi_lt (x y : Int32) : x < y ↔ zbi x < zbi y := by
  have hx := x.minValue_le_toInt; have hy := y.minValue_le_toInt
  rw [Int32.lt_iff_toInt_lt]; unfold zbi
  have e : (Int32.minValue).toInt = -2147483648 := by decide
  rw [e] at hx hy
  omega
theorem zbi_inj {x y : Int32} (h : zbi x = zbi y) : x = y := by
  have h1 := zbi_lt x y; have h2 := zbi_lt y x
  rw [← Int32.toInt_inj]
  rw [Int32.lt_iff_toInt_lt] at h1 h2
  omega
theorem zbi_nI (k : Nat) : zbi (nI k) = (k + 2147483648) % 4294967296 := by
  unfold zbi
  have h : (nI k).toInt = (BitVec.ofNat 32 k).toInt := rfl
  rw [h, BitVec.toInt_eq_toNat_bmod, BitVec.toNat_ofNat, Int.bmod_def]
  split <;> omega

theorem nm_mod (a b : Nat) : Nat.mod a b = a % b := rfl
theorem nm_add (a b : Nat) : Nat.add a b = a + b := rfl
theorem nm_div (a b : Nat) : Nat.div a b = a / b := rfl
/-! branches: iv holds bounds for the script's ints -/
def zIv (ev : Nat → Int32) (iv : Nat → Nat × Nat) : Prop := ∀ j, (iv j).1 ≤ zbi (ev j) ∧ zbi (ev j) ≤ (iv j).2
noncomputable def zlo (iv : Nat → Nat × Nat) (v : Nat) : Nat := cond (zt v 0) (Nat.mod (Nat.add (Nat.div v 8) 2147483648) 4294967296) (iv (Nat.div v 8)).1
noncomputable def zhi (iv : Nat → Nat × Nat) (v : Nat) : Nat := cond (zt v 0) (Nat.mod (Nat.add (Nat.div v 8) 2147483648) 4294967296) (iv (Nat.div v 8)).2
theorem zlohi {sz : Nat} {sv : Nat → Value} {ev : Nat → Int32} {iv : Nat → Nat × Nat} (h : zIv ev iv) {v : Nat} (ht : zisI v = true) : ∃ x, zvd sz sv ev v = .int x ∧ zlo iv v ≤ zbi x ∧ zbi x ≤ zhi iv v := by
  cases h0 : zt v 0 with
  | true =>
    refine ⟨_, zvd_0 (zt_eq h0), ?_⟩
    have e1 : zlo iv v = zbi (nI (v / 8)) := by
      rw [zbi_nI]; unfold zlo; rw [h0, cond_true, nm_mod, nm_add, nm_div]
    have e2 : zhi iv v = zbi (nI (v / 8)) := by
      rw [zbi_nI]; unfold zhi; rw [h0, cond_true, nm_mod, nm_add, nm_div]
    rw [e1, e2]
    exact ⟨Nat.le_refl _, Nat.le_refl _⟩
  | false =>
    have h7 : v % 8 = 7 := by
      rcases zisI_eq ht with h1 | h1
      · have : zt v 0 = true := by show Nat.beq (v % 8) 0 = true; rw [h1]; rfl
        rw [this] at h0; cases h0
      · exact h1
    refine ⟨_, zvd_7 h7, ?_⟩
    unfold zlo zhi
    rw [h0, cond_false, cond_false, nm_div]
    exact h _
noncomputable def zltb (iv : Nat → Nat × Nat) (x y : Nat) (k : Bool → zR) : zR := zck (zisI x) (zck (zisI y) (cond (Nat.blt (zhi iv x) (zlo iv y)) (k true) (cond (Nat.ble (zhi iv y) (zlo iv x)) (k false) none)))
theorem zltb_some {sz : Nat} {sv : Nat → Value} {ev : Nat → Int32} {iv : Nat → Nat × Nat} (h : zIv ev iv) {x y : Nat} {k : Bool → zR} {o : zOut} (hr : zltb iv x y k = some o) : ∃ X Y b, zvd sz sv ev x = .int X ∧ zvd sz sv ev y = .int Y ∧ (b = true ↔ X < Y) ∧ k b = some o := by
  obtain ⟨hx, hr⟩ := zck_some hr
  obtain ⟨hy, hr⟩ := zck_some hr
  obtain ⟨X, e1, l1, u1⟩ := zlohi (sz := sz) (sv := sv) h hx
  obtain ⟨Y, e2, l2, u2⟩ := zlohi (sz := sz) (sv := sv) h hy
  cases hb : Nat.blt (zhi iv x) (zlo iv y) with
  | true =>
    rw [hb] at hr
    have : zhi iv x + 1 ≤ zlo iv y := Nat.le_of_ble_eq_true hb
    exact ⟨X, Y, true, e1, e2, ⟨fun _ => (zbi_lt X Y).mpr (by omega), fun _ => rfl⟩, hr⟩
  | false =>
    rw [hb] at hr
    cases hb2 : Nat.ble (zhi iv y) (zlo iv x) with
    | true =>
      rw [hb2] at hr
      have : zhi iv y ≤ zlo iv x := Nat.le_of_ble_eq_true hb2
      exact ⟨X, Y, false, e1, e2, ⟨fun z => (nomatch z), fun z => absurd ((zbi_lt X Y).mp z) (by omega)⟩, hr⟩
    | false => rw [hb2] at hr; cases hr
noncomputable def zeqb (iv : Nat → Nat × Nat) (x y : Nat) (k : Bool → zR) : zR := zck (zisI x) (zck (zisI y) (cond (Nat.blt (zhi iv x) (zlo iv y)) (k false) (cond (Nat.blt (zhi iv y) (zlo iv x)) (k false) (zck (Nat.ble (zhi iv x) (zlo iv y)) (zck (Nat.ble (zhi iv y) (zlo iv x)) (k true))))))
theorem zeqb_some {sz : Nat} {sv : Nat → Value} {ev : Nat → Int32} {iv : Nat → Nat × Nat} (h : zIv ev iv) {x y : Nat} {k : Bool → zR} {o : zOut} (hr : zeqb iv x y k = some o) : ∃ X Y b, zvd sz sv ev x = .int X ∧ zvd sz sv ev y = .int Y ∧ (b = true ↔ X = Y) ∧ k b = some o := by
  obtain ⟨hx, hr⟩ := zck_some hr
  obtain ⟨hy, hr⟩ := zck_some hr
  obtain ⟨X, e1, l1, u1⟩ := zlohi (sz := sz) (sv := sv) h hx
  obtain ⟨Y, e2, l2, u2⟩ := zlohi (sz := sz) (sv := sv) h hy
  cases hb : Nat.blt (zhi iv x) (zlo iv y) with
  | true =>
    rw [hb] at hr
    have : zhi iv x + 1 ≤ zlo iv y := Nat.le_of_ble_eq_true hb
    exact ⟨X, Y, false, e1, e2, ⟨fun z => (nomatch z), fun z => by rw [z] at u1; omega⟩, hr⟩
  | false =>
    rw [hb] at hr
    cases hb2 : Nat.blt (zhi iv y) (zlo iv x) with
    | true =>
      rw [hb2] at hr
      have : zhi iv y + 1 ≤ zlo iv x := Nat.le_of_ble_eq_true hb2
      exact ⟨X, Y, false, e1, e2, ⟨fun z => (nomatch z), fun z => by rw [z] at l1; omega⟩, hr⟩
    | false =>
      rw [hb2] at hr
      obtain ⟨g1, hr⟩ := zck_some hr
      obtain ⟨g2, hr⟩ := zck_some hr
      have g1' := Nat.le_of_ble_eq_true g1
      have g2' := Nat.le_of_ble_eq_true g2
      exact ⟨X, Y, true, e1, e2, ⟨fun _ => zbi_inj (by omega), fun _ => rfl⟩, hr⟩
/-- neg: the branch is taken where the comparison fails; sw: the other way round -/
noncomputable def zJlt (iv : Nat → Nat × Nat) (sw neg : Bool) (tg : Nat) : zI := fun k j L st hp n ns => zpop st fun y t => zpop t fun x t => zltb iv (cond sw y x) (cond sw x y) fun b => cond (cond neg (not b) b) (j tg L t hp n ns) (k L t hp n ns)
noncomputable def zJeq (iv : Nat → Nat × Nat) (neg : Bool) (tg : Nat) : zI := fun k j L st hp n ns => zpop st fun y t => zpop t fun x t => zeqb iv x y fun b => cond (cond neg (not b) b) (j tg L t hp n ns) (k L t hp n ns)
noncomputable def z0lt (iv : Nat → Nat × Nat) (sw neg : Bool) (tg : Nat) : zI := fun k j L st hp n ns => zpop st fun x t => zltb iv (cond sw 0 x) (cond sw x 0) fun b => cond (cond neg (not b) b) (j tg L t hp n ns) (k L t hp n ns)
noncomputable def z0eq (iv : Nat → Nat × Nat) (neg : Bool) (tg : Nat) : zI := fun k j L st hp n ns => zpop st fun x t => zeqb iv x 0 fun b => cond (cond neg (not b) b) (j tg L t hp n ns) (k L t hp n ns)
noncomputable def zJnul (neg : Bool) (tg : Nat) : zI := fun k j L st hp n ns => zpop st fun x t => cond (zt x 3) (cond neg (k L t hp n ns) (j tg L t hp n ns)) (zck (zt x 1) (cond neg (j tg L t hp n ns) (k L t hp n ns)))
