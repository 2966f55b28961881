/-! ints of the script by char, byte and eight places down, told by lists -/
def zisZ (v : Nat) : Bool := cond (Nat.beq v 0) true (Nat.beq v 8)
def zisC (v : Nat) : Bool := cond (Nat.beq (Nat.mod v 8) 0) (Nat.blt v 524288) false
noncomputable def zNo : zI := fun _ _ _ _ _ _ _ => none
noncomputable def zI2cT (tb : List (Nat × Nat)) : zI := fun k _ L st hp n ns => zpop st fun x t => cond (zt x 0) (k L (Nat.mul 8 (Nat.mod (Nat.div x 8) 65536) :: t) hp n ns) (zck (zt x 7) (zasc (Nat.div x 8) tb fun j => k L (Nat.add (Nat.mul 8 j) 7 :: t) hp n ns))
noncomputable def zI2bT (tb : List (Nat × Nat)) : zI := fun k _ L st hp n ns => zpop st fun x t => cond (zt x 0) (zck (Nat.blt x 1024) (k L (x :: t) hp n ns)) (zck (zt x 7) (zasc (Nat.div x 8) tb fun j => k L (Nat.add (Nat.mul 8 j) 7 :: t) hp n ns))
noncomputable def zUshT (tb : List (Nat × Nat)) : zI := fun k j L st hp n ns => zpop st fun y t => zpop t fun x t => cond (cond (zt x 0) (zt y 0) false) (k L (zmk (zfUshr (Nat.div x 8) (Nat.div y 8)) :: t) hp n ns) (zck (zt x 7) (zck (Nat.beq y 64) (zasc (Nat.div x 8) tb fun j => k L (Nat.add (Nat.mul 8 j) 7 :: t) hp n ns)))

section ZB
variable {sz : Nat} {sv : Nat → Value} {ev : Nat → Int32} {cl : List vw_C} {ar : zAr} {D : va_G}
variable {p : Program} {l : Launch} {e : Env} {R : Room} {s : State} {m : MethodId} {args : Array Value} {below : List Frame} {meth : Method} {c : Code} {Q : State → Prop}
variable {gw : List Cond} {cc : ByteArray} {own : String} {nL n0 ns0 : Nat} {r : zOut} {pc : Nat}

theorem gNo {len : Nat} : zGd sz sv ev cl ar D p l e R s m args below meth c Q nL n0 ns0 r pc len zNo := fun _ _ _ _ _ _ _ _ _ h => nomatch h
theorem z87 (j : Nat) : zvd sz sv ev (Nat.add (Nat.mul 8 j) 7) = .int (ev j) := by
  have e0 : (Nat.add (Nat.mul 8 j) 7) % 8 = 7 := by show (8 * j + 7) % 8 = 7; omega
  have e8 : (Nat.add (Nat.mul 8 j) 7) / 8 = j := by show (8 * j + 7) / 8 = j; omega
  rw [zvd_7 e0, e8]

theorem gI_i2cT {tb : List (Nat × Nat)} (hD : ∀ q ∈ tb, ev q.2 = ((ev q.1).toUInt32 % 65536).toInt32) (X : zCtx sz sv cl ar D p R s m args c gw cc own nL n0 ns0 r) (hd : decode cc pc = .ok (.i2c, 1)) : zGd sz sv ev cl ar D p l e R s m args below meth c Q nL n0 ns0 r pc 1 (zI2cT tb) := by
  intro k j hk hj L st hp n ns hr
  obtain ⟨x, t, rfl, q1⟩ := zpop_some hr
  clear hr
  cases hx : zt x 0 with
  | true =>
    simp only [hx, cond_true] at q1
    obtain ⟨h1, h2, h3⟩ := hk L _ hp n ns q1
    refine ⟨h1, h2, fun ls H locs a b d => ?_⟩
    have kk := h3 ls H locs a b d
    simp only [List.map_cons] at kk ⊢
    rw [zvd_0 (zt_eq hx)]
    have e0 : (Nat.mul 8 (Nat.mod (Nat.div x 8) 65536)) % 8 = 0 := by show (8 * (x / 8 % 65536)) % 8 = 0; omega
    have e8 : (Nat.mul 8 (Nat.mod (Nat.div x 8) 65536)) / 8 = x / 8 % 65536 := by show (8 * (x / 8 % 65536)) / 8 = _; omega
    rw [zvd_0 e0, e8] at kk
    refine lv_i2c X.1 X.2.1 hd ?_ kk
    rw [pk_char, zi_tn]
    exact congrArg nI (by omega)
  | false =>
    simp only [hx, cond_false] at q1
    obtain ⟨h7, hr⟩ := zck_some q1
    obtain ⟨q, hq, hqj, hr⟩ := zasc_some hr
    obtain ⟨h1, h2, h3⟩ := hk L _ hp n ns hr
    refine ⟨h1, h2, fun ls H locs a b d => ?_⟩
    have kk := h3 ls H locs a b d
    simp only [List.map_cons] at kk ⊢
    rw [zvd_7 (zt_eq h7), show x / 8 = q.1 from hqj.symm]
    rw [z87] at kk
    exact lv_i2c X.1 X.2.1 hd (hD q hq).symm kk
theorem gI_i2bT {tb : List (Nat × Nat)} (hD : ∀ q ∈ tb, ev q.2 = (ev q.1).toInt8.toInt32) (X : zCtx sz sv cl ar D p R s m args c gw cc own nL n0 ns0 r) (hd : decode cc pc = .ok (.i2b, 1)) : zGd sz sv ev cl ar D p l e R s m args below meth c Q nL n0 ns0 r pc 1 (zI2bT tb) := by
  intro k j hk hj L st hp n ns hr
  obtain ⟨x, t, rfl, q1⟩ := zpop_some hr
  clear hr
  cases hx : zt x 0 with
  | true =>
    simp only [hx, cond_true] at q1
    obtain ⟨hb, q1⟩ := zck_some q1
    obtain ⟨h1, h2, h3⟩ := hk L _ hp n ns q1
    refine ⟨h1, h2, fun ls H locs a b d => ?_⟩
    have kk := h3 ls H locs a b d
    simp only [List.map_cons] at kk ⊢
    rw [zvd_0 (zt_eq hx)] at kk ⊢
    have : x + 1 ≤ 1024 := Nat.le_of_ble_eq_true hb
    exact lv_i2b X.1 X.2.1 hd (zb8 _ (by omega)) kk
  | false =>
    simp only [hx, cond_false] at q1
    obtain ⟨h7, hr⟩ := zck_some q1
    obtain ⟨q, hq, hqj, hr⟩ := zasc_some hr
    obtain ⟨h1, h2, h3⟩ := hk L _ hp n ns hr
    refine ⟨h1, h2, fun ls H locs a b d => ?_⟩
    have kk := h3 ls H locs a b d
    simp only [List.map_cons] at kk ⊢
    rw [zvd_7 (zt_eq h7), show x / 8 = q.1 from hqj.symm]
    rw [z87] at kk
    exact lv_i2b X.1 X.2.1 hd (hD q hq).symm kk
theorem gI_iushrT {tb : List (Nat × Nat)} (hD : ∀ q ∈ tb, ev q.2 = ((ev q.1).toUInt32 >>> ((nI 8).toUInt32 &&& Int32.toUInt32 31)).toInt32) (X : zCtx sz sv cl ar D p R s m args c gw cc own nL n0 ns0 r) (hd : decode cc pc = .ok (.iushr, 1)) : zGd sz sv ev cl ar D p l e R s m args below meth c Q nL n0 ns0 r pc 1 (zUshT tb) := by
  intro k j hk hj L st hp n ns hr
  obtain ⟨y, t, rfl, q1⟩ := zpop_some hr
  clear hr
  obtain ⟨x, t, rfl, hr⟩ := zpop_some q1
  clear q1
  cases hc : cond (zt x 0) (zt y 0) false with
  | true =>
    have hxy : zt x 0 = true ∧ zt y 0 = true := by
      cases hx : zt x 0 <;> rw [hx] at hc
      · cases hc
      · exact ⟨rfl, hc⟩
    simp only [hc, cond_true] at hr
    obtain ⟨h1, h2, h3⟩ := hk L _ hp n ns hr
    refine ⟨h1, h2, fun ls H locs a b d => ?_⟩
    have kk := h3 ls H locs a b d
    simp only [List.map_cons] at kk ⊢
    rw [zvd_0 (zt_eq hxy.1), zvd_0 (zt_eq hxy.2)]
    rw [zmk_v] at kk
    exact lv_iushr X.1 X.2.1 hd (zi_ushr _ _) kk
  | false =>
    simp only [hc, cond_false] at hr
    obtain ⟨h7, hr⟩ := zck_some hr
    obtain ⟨hb, hr⟩ := zck_some hr
    obtain ⟨q, hq, hqj, hr⟩ := zasc_some hr
    obtain ⟨h1, h2, h3⟩ := hk L _ hp n ns hr
    refine ⟨h1, h2, fun ls H locs a b d => ?_⟩
    have kk := h3 ls H locs a b d
    simp only [List.map_cons] at kk ⊢
    have hE := Nat.eq_of_beq_eq_true hb
    rw [hE, zvd_7 (zt_eq h7), zvd_0 (v := 64) (by decide), show x / 8 = q.1 from hqj.symm]
    rw [z87] at kk
    exact lv_iushr X.1 X.2.1 hd (hD q hq).symm kk

end ZB