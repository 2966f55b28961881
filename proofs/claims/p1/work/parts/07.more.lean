/-! more instructions: stack, longs, conversions, switches, ends -/
noncomputable def zShr : zI := fun k _ L st hp n ns => zpop st fun y t => zpop t fun x t => zck (zt x 0) (zck (zt y 0) (zck (Nat.blt x 17179869184) (k L (zmk (Nat.shiftRight (Nat.div x 8) (Nat.mod (Nat.div y 8) 32)) :: t) hp n ns)))
noncomputable def zNeg : zI := fun k _ L st hp n ns => zpop st fun x t => zck (zt x 0) (k L (zmk (zfNeg (Nat.div x 8)) :: t) hp n ns)
noncomputable def zDiv (f : Nat → Nat → Nat) : zI := fun k _ L st hp n ns => zpop st fun y t => zpop t fun x t => zck (zt x 0) (zck (zt y 0) (zck (Nat.blt x 17179869184) (zck (Nat.blt y 17179869184) (zck (Nat.blt 7 y) (k L (zmk (f (Nat.div x 8) (Nat.div y 8)) :: t) hp n ns)))))
noncomputable def zAndS : zI := fun k j L st hp n ns => zpop st fun y t => zpop t fun x t => cond (cond (zt x 0) (zt y 0) false) (k L (zmk (Nat.land (Nat.div x 8) (Nat.div y 8)) :: t) hp n ns) (zck (zisI x) (zck (zisI y) (cond (Nat.beq y 34359738360) (k L (x :: t) hp n ns) (cond (Nat.beq x 34359738360) (k L (y :: t) hp n ns) (cond (Nat.beq y 0) (k L (0 :: t) hp n ns) (zck (Nat.beq x 0) (k L (0 :: t) hp n ns)))))))
noncomputable def zOrS : zI := fun k j L st hp n ns => zpop st fun y t => zpop t fun x t => cond (cond (zt x 0) (zt y 0) false) (k L (zmk (Nat.lor (Nat.div x 8) (Nat.div y 8)) :: t) hp n ns) (zck (zisI x) (zck (zisI y) (cond (Nat.beq y 0) (k L (x :: t) hp n ns) (zck (Nat.beq x 0) (k L (y :: t) hp n ns)))))
noncomputable def zI2l : zI := fun k _ L st hp n ns => zpop st fun x t => zck (zt x 0) (zck (Nat.blt x 17179869184) (k L (Nat.add x 4 :: t) hp n ns))
noncomputable def zml (k : Nat) : Nat := Nat.add (Nat.mul 8 (Nat.mod k 18446744073709551616)) 4
noncomputable def zLbin (f : Nat → Nat → Nat) : zI := fun k _ L st hp n ns => zpop st fun y t => zpop t fun x t => zck (zt x 4) (zck (zt y 4) (k L (zml (f (Nat.div x 8) (Nat.div y 8)) :: t) hp n ns))
noncomputable def zLcmp : zI := fun k _ L st hp n ns => zpop st fun y t => zpop t fun x t => zck (zt x 4) (zck (zt y 4) (zck (Nat.blt x 73786976294838206464) (zck (Nat.blt y 73786976294838206464) (k L (cond (Nat.blt y x) 8 (cond (Nat.beq x y) 0 34359738360) :: t) hp n ns))))
/-- the ints that come of the script's by char, by byte, by eight places down -/
def zDer (ev : Nat → Int32) (d : Nat × Nat × Nat) : Prop := ∀ j, ev (j + d.1) = ((ev j).toUInt32 % 65536).toInt32 ∧ ev (j + d.2.1) = (ev j).toInt8.toInt32 ∧ ev (j + d.2.2) = ((ev j).toUInt32 >>> ((nI 8).toUInt32 &&& Int32.toUInt32 31)).toInt32
noncomputable def zI2c (d : Nat) : zI := fun k _ L st hp n ns => zpop st fun x t => cond (zt x 0) (k L (Nat.mul 8 (Nat.mod (Nat.div x 8) 65536) :: t) hp n ns) (zck (zt x 7) (k L (Nat.add x (Nat.mul 8 d) :: t) hp n ns))
noncomputable def zI2b (d : Nat) : zI := fun k _ L st hp n ns => zpop st fun x t => cond (zt x 0) (zck (Nat.blt x 1024) (k L (x :: t) hp n ns)) (zck (zt x 7) (k L (Nat.add x (Nat.mul 8 d) :: t) hp n ns))
noncomputable def zUshS (d : Nat) : zI := fun k j L st hp n ns => zpop st fun y t => zpop t fun x t => cond (cond (zt x 0) (zt y 0) false) (k L (zmk (zfUshr (Nat.div x 8) (Nat.div y 8)) :: t) hp n ns) (zck (zt x 7) (zck (Nat.beq y 64) (k L (Nat.add x (Nat.mul 8 d) :: t) hp n ns)))
noncomputable def zsw (lo hi d : Nat) (tb : List (Nat × Nat)) (k : Nat → zR) : zR := List.rec (motive := fun _ => zR) (k d) (fun q _ ih => cond (Nat.blt hi q.1) ih (cond (Nat.blt q.1 lo) ih (zck (Nat.beq lo hi) (k q.2)))) tb
noncomputable def zSw (iv : Nat → Nat × Nat) (d : Nat) (tb : List (Nat × Nat)) : zI := fun _ j L st hp n ns => zpop st fun x t => zck (zisI x) (zsw (zlo iv x) (zhi iv x) d tb fun tg => j tg L t hp n ns)
noncomputable def znth (i d : Nat) (tb : List Nat) : Nat := List.rec (motive := fun _ => Nat → Nat) (fun _ => d) (fun q _ ih => fun i => cond (Nat.beq i 0) q (ih (Nat.pred i))) tb i
noncomputable def zTs (d : Nat) (tb : List Nat) : zI := fun _ j L st hp n ns => zpop st fun x t => zck (zt x 0) (zck (Nat.blt x 17179869184) (j (znth (Nat.div x 8) d tb) L t hp n ns))

section ZB
variable {sz : Nat} {sv : Nat → Value} {ev : Nat → Int32} {cl : List vw_C} {ar : zAr} {D : va_G}
variable {p : Program} {l : Launch} {e : Env} {R : Room} {s : State} {m : MethodId} {args : Array Value} {below : List Frame} {meth : Method} {c : Code} {Q : State → Prop}
variable {gw : List Cond} {cc : ByteArray} {own : String} {nL n0 ns0 : Nat} {r : zOut} {pc : Nat}

theorem gI_ishr (X : zCtx sz sv cl ar D p R s m args c gw cc own nL n0 ns0 r) (hd : decode cc pc = .ok (.ishr, 1)) : zGd sz sv ev cl ar D p l e R s m args below meth c Q nL n0 ns0 r pc 1 zShr := by
  intro k j hk hj L st hp n ns hr
  obtain ⟨y, t, rfl, q1⟩ := zpop_some hr
  clear hr
  obtain ⟨x, t, rfl, hr⟩ := zpop_some q1
  clear q1
  obtain ⟨hx, hr⟩ := zck_some hr
  obtain ⟨hy, hr⟩ := zck_some hr
  obtain ⟨hb, hr⟩ := zck_some hr
  obtain ⟨h1, h2, h3⟩ := hk L _ hp n ns hr
  refine ⟨h1, h2, fun ls H locs a b d => ?_⟩
  have kk := h3 ls H locs a b d
  simp only [List.map_cons] at kk ⊢
  rw [zvd_0 (zt_eq hx), zvd_0 (zt_eq hy)]
  rw [zmk_v] at kk
  have hx31 : x / 8 < 2 ^ 31 := by
    have : x + 1 ≤ 17179869184 := Nat.le_of_ble_eq_true hb
    omega
  refine lv_ishr X.1 X.2.1 hd ?_
  rw [zi_sh31, pk_shrN hx31 _ (y / 8 % 32) (zi_s _ (Nat.mod_lt _ (by decide)))]
  rw [← Nat.shiftRight_eq_div_pow]
  exact kk

theorem gI_ineg (X : zCtx sz sv cl ar D p R s m args c gw cc own nL n0 ns0 r) (hd : decode cc pc = .ok (.ineg, 1)) : zGd sz sv ev cl ar D p l e R s m args below meth c Q nL n0 ns0 r pc 1 zNeg := by
  intro k j hk hj L st hp n ns hr
  obtain ⟨x, t, rfl, q1⟩ := zpop_some hr
  clear hr
  obtain ⟨hx, hr⟩ := zck_some q1
  obtain ⟨h1, h2, h3⟩ := hk L _ hp n ns hr
  refine ⟨h1, h2, fun ls H locs a b d => ?_⟩
  have kk := h3 ls H locs a b d
  simp only [List.map_cons] at kk ⊢
  rw [zvd_0 (zt_eq hx)]
  rw [zmk_v, ← zi_neg] at kk
  exact lv_ineg X.1 X.2.1 hd kk

theorem gI_idiv (X : zCtx sz sv cl ar D p R s m args c gw cc own nL n0 ns0 r) (hd : decode cc pc = .ok (.idiv, 1)) : zGd sz sv ev cl ar D p l e R s m args below meth c Q nL n0 ns0 r pc 1 (zDiv Nat.div) := by
  intro k j hk hj L st hp n ns hr
  obtain ⟨y, t, rfl, q1⟩ := zpop_some hr
  clear hr
  obtain ⟨x, t, rfl, hr⟩ := zpop_some q1
  clear q1
  obtain ⟨hx, hr⟩ := zck_some hr
  obtain ⟨hy, hr⟩ := zck_some hr
  obtain ⟨hb, hr⟩ := zck_some hr
  obtain ⟨hb2, hr⟩ := zck_some hr
  obtain ⟨hb3, hr⟩ := zck_some hr
  obtain ⟨h1, h2, h3⟩ := hk L _ hp n ns hr
  refine ⟨h1, h2, fun ls H locs a b d => ?_⟩
  have kk := h3 ls H locs a b d
  simp only [List.map_cons] at kk ⊢
  rw [zvd_0 (zt_eq hx), zvd_0 (zt_eq hy)]
  rw [zmk_v] at kk
  have hx31 : x / 8 < 2 ^ 31 := by
    have : x + 1 ≤ 17179869184 := Nat.le_of_ble_eq_true hb
    omega
  have hy31 : y / 8 < 2 ^ 31 := by
    have : y + 1 ≤ 17179869184 := Nat.le_of_ble_eq_true hb2
    omega
  have hy0 : 0 < y / 8 := by
    have : 7 + 1 ≤ y := Nat.le_of_ble_eq_true hb3
    omega
  refine lv_idiv X.1 X.2.1 hd (nI_ne0 hy0 hy31) ?_
  rw [pk_div hx31 hy0 hy31]
  exact kk

theorem gI_irem (X : zCtx sz sv cl ar D p R s m args c gw cc own nL n0 ns0 r) (hd : decode cc pc = .ok (.irem, 1)) : zGd sz sv ev cl ar D p l e R s m args below meth c Q nL n0 ns0 r pc 1 (zDiv Nat.mod) := by
  intro k j hk hj L st hp n ns hr
  obtain ⟨y, t, rfl, q1⟩ := zpop_some hr
  clear hr
  obtain ⟨x, t, rfl, hr⟩ := zpop_some q1
  clear q1
  obtain ⟨hx, hr⟩ := zck_some hr
  obtain ⟨hy, hr⟩ := zck_some hr
  obtain ⟨hb, hr⟩ := zck_some hr
  obtain ⟨hb2, hr⟩ := zck_some hr
  obtain ⟨hb3, hr⟩ := zck_some hr
  obtain ⟨h1, h2, h3⟩ := hk L _ hp n ns hr
  refine ⟨h1, h2, fun ls H locs a b d => ?_⟩
  have kk := h3 ls H locs a b d
  simp only [List.map_cons] at kk ⊢
  rw [zvd_0 (zt_eq hx), zvd_0 (zt_eq hy)]
  rw [zmk_v] at kk
  have hx31 : x / 8 < 2 ^ 31 := by
    have : x + 1 ≤ 17179869184 := Nat.le_of_ble_eq_true hb
    omega
  have hy31 : y / 8 < 2 ^ 31 := by
    have : y + 1 ≤ 17179869184 := Nat.le_of_ble_eq_true hb2
    omega
  have hy0 : 0 < y / 8 := by
    have : 7 + 1 ≤ y := Nat.le_of_ble_eq_true hb3
    omega
  refine lv_irem X.1 X.2.1 hd (nI_ne0 hy0 hy31) ?_
  rw [pk_rem hx31 hy0 hy31]
  exact kk

theorem zand_m1 (x : Int32) : x &&& (-1) = x := by
  apply Int32.toBitVec_inj.1; rw [Int32.toBitVec_and]; show x.toBitVec &&& BitVec.allOnes 32 = _; exact BitVec.and_allOnes
theorem zm1_and (x : Int32) : (-1) &&& x = x := by
  apply Int32.toBitVec_inj.1; rw [Int32.toBitVec_and]; show BitVec.allOnes 32 &&& x.toBitVec = _; exact BitVec.allOnes_and
theorem zand_0 (x : Int32) : x &&& 0 = 0 := by
  apply Int32.toBitVec_inj.1; rw [Int32.toBitVec_and]; show x.toBitVec &&& 0#32 = _; exact BitVec.and_zero
theorem z0_and (x : Int32) : 0 &&& x = 0 := by
  apply Int32.toBitVec_inj.1; rw [Int32.toBitVec_and]; show 0#32 &&& x.toBitVec = _; exact BitVec.zero_and
theorem zor_0 (x : Int32) : x ||| 0 = x := by
  apply Int32.toBitVec_inj.1; rw [Int32.toBitVec_or]; show x.toBitVec ||| 0#32 = _; exact BitVec.or_zero
theorem z0_or (x : Int32) : 0 ||| x = x := by
  apply Int32.toBitVec_inj.1; rw [Int32.toBitVec_or]; show 0#32 ||| x.toBitVec = _; exact BitVec.zero_or

theorem gI_iandS (X : zCtx sz sv cl ar D p R s m args c gw cc own nL n0 ns0 r) (hd : decode cc pc = .ok (.iand, 1)) : zGd sz sv ev cl ar D p l e R s m args below meth c Q nL n0 ns0 r pc 1 zAndS := by
  intro k j hk hj L st hp n ns hr
  obtain ⟨y, t, rfl, q1⟩ := zpop_some hr
  clear hr
  obtain ⟨x, t, rfl, hr⟩ := zpop_some q1
  clear q1
  have h32 : zvd sz sv ev 34359738360 = .int (-1) := by rw [zvd_0 (by decide)]; exact congrArg Value.int (by decide)
  have hz0 : zvd sz sv ev 0 = .int 0 := by rw [zvd_0 (by decide)]; rfl
  cases hc : cond (zt x 0) (zt y 0) false with
  | true =>
    have hxy : zt x 0 = true ∧ zt y 0 = true := by
      cases hx : zt x 0 <;> rw [hx] at hc
      · cases hc
      · exact ⟨rfl, hc⟩
    simp only [hc, cond_true] at hr
    obtain ⟨h1, h2, h3⟩ := hk L _ hp n ns hr
    refine ⟨h1, h2, fun ls H locs a b d => ?_⟩
    have kk := h3 ls H locs a b d
    simp only [List.map_cons] at kk ⊢
    rw [zvd_0 (zt_eq hxy.1), zvd_0 (zt_eq hxy.2)]
    rw [zmk_v, ← zi_and] at kk
    exact lv_iand X.1 X.2.1 hd kk
  | false =>
    simp only [hc, cond_false] at hr
    obtain ⟨hx, hr⟩ := zck_some hr
    obtain ⟨hy, hr⟩ := zck_some hr
    obtain ⟨U, hU⟩ := zI_int (sz := sz) (sv := sv) (ev := ev) hx
    obtain ⟨V, hV⟩ := zI_int (sz := sz) (sv := sv) (ev := ev) hy
    cases hb : Nat.beq y 34359738360 with
    | true =>
      simp only [hb, cond_true] at hr
      obtain ⟨h1, h2, h3⟩ := hk L _ hp n ns hr
      refine ⟨h1, h2, fun ls H locs a b d => ?_⟩
      have kk := h3 ls H locs a b d
      simp only [List.map_cons] at kk ⊢
      have hE := Nat.eq_of_beq_eq_true hb
      subst hE
      rw [hU, h32]
      rw [hU] at kk
      refine lv_iand X.1 X.2.1 hd ?_
      rw [zand_m1]
      exact kk
    | false =>
      simp only [hb, cond_false] at hr
      cases hb : Nat.beq x 34359738360 with
      | true =>
        simp only [hb, cond_true] at hr
        obtain ⟨h1, h2, h3⟩ := hk L _ hp n ns hr
        refine ⟨h1, h2, fun ls H locs a b d => ?_⟩
        have kk := h3 ls H locs a b d
        simp only [List.map_cons] at kk ⊢
        have hE := Nat.eq_of_beq_eq_true hb
        subst hE
        rw [hV, h32]
        rw [hV] at kk
        refine lv_iand X.1 X.2.1 hd ?_
        rw [zm1_and]
        exact kk
      | false =>
        simp only [hb, cond_false] at hr
        cases hb : Nat.beq y 0 with
        | true =>
          simp only [hb, cond_true] at hr
          obtain ⟨h1, h2, h3⟩ := hk L _ hp n ns hr
          refine ⟨h1, h2, fun ls H locs a b d => ?_⟩
          have kk := h3 ls H locs a b d
          simp only [List.map_cons] at kk ⊢
          have hE := Nat.eq_of_beq_eq_true hb
          subst hE
          rw [hU, hz0]
          rw [hz0] at kk
          refine lv_iand X.1 X.2.1 hd ?_
          rw [zand_0]
          exact kk
        | false =>
          simp only [hb, cond_false] at hr
          obtain ⟨hb, hr⟩ := zck_some hr
          obtain ⟨h1, h2, h3⟩ := hk L _ hp n ns hr
          refine ⟨h1, h2, fun ls H locs a b d => ?_⟩
          have kk := h3 ls H locs a b d
          simp only [List.map_cons] at kk ⊢
          have hE := Nat.eq_of_beq_eq_true hb
          subst hE
          rw [hV, hz0]
          rw [hz0] at kk
          refine lv_iand X.1 X.2.1 hd ?_
          rw [z0_and]
          exact kk

theorem gI_iorS (X : zCtx sz sv cl ar D p R s m args c gw cc own nL n0 ns0 r) (hd : decode cc pc = .ok (.ior, 1)) : zGd sz sv ev cl ar D p l e R s m args below meth c Q nL n0 ns0 r pc 1 zOrS := by
  intro k j hk hj L st hp n ns hr
  obtain ⟨y, t, rfl, q1⟩ := zpop_some hr
  clear hr
  obtain ⟨x, t, rfl, hr⟩ := zpop_some q1
  clear q1
  have h32 : zvd sz sv ev 34359738360 = .int (-1) := by rw [zvd_0 (by decide)]; exact congrArg Value.int (by decide)
  have hz0 : zvd sz sv ev 0 = .int 0 := by rw [zvd_0 (by decide)]; rfl
  cases hc : cond (zt x 0) (zt y 0) false with
  | true =>
    have hxy : zt x 0 = true ∧ zt y 0 = true := by
      cases hx : zt x 0 <;> rw [hx] at hc
      · cases hc
      · exact ⟨rfl, hc⟩
    simp only [hc, cond_true] at hr
    obtain ⟨h1, h2, h3⟩ := hk L _ hp n ns hr
    refine ⟨h1, h2, fun ls H locs a b d => ?_⟩
    have kk := h3 ls H locs a b d
    simp only [List.map_cons] at kk ⊢
    rw [zvd_0 (zt_eq hxy.1), zvd_0 (zt_eq hxy.2)]
    rw [zmk_v, ← zi_or] at kk
    exact lv_ior X.1 X.2.1 hd kk
  | false =>
    simp only [hc, cond_false] at hr
    obtain ⟨hx, hr⟩ := zck_some hr
    obtain ⟨hy, hr⟩ := zck_some hr
    obtain ⟨U, hU⟩ := zI_int (sz := sz) (sv := sv) (ev := ev) hx
    obtain ⟨V, hV⟩ := zI_int (sz := sz) (sv := sv) (ev := ev) hy
    cases hb : Nat.beq y 0 with
    | true =>
      simp only [hb, cond_true] at hr
      obtain ⟨h1, h2, h3⟩ := hk L _ hp n ns hr
      refine ⟨h1, h2, fun ls H locs a b d => ?_⟩
      have kk := h3 ls H locs a b d
      simp only [List.map_cons] at kk ⊢
      have hE := Nat.eq_of_beq_eq_true hb
      subst hE
      rw [hU, hz0]
      rw [hU] at kk
      refine lv_ior X.1 X.2.1 hd ?_
      rw [zor_0]
      exact kk
    | false =>
      simp only [hb, cond_false] at hr
      obtain ⟨hb, hr⟩ := zck_some hr
      obtain ⟨h1, h2, h3⟩ := hk L _ hp n ns hr
      refine ⟨h1, h2, fun ls H locs a b d => ?_⟩
      have kk := h3 ls H locs a b d
      simp only [List.map_cons] at kk ⊢
      have hE := Nat.eq_of_beq_eq_true hb
      subst hE
      rw [hV, hz0]
      rw [hV] at kk
      refine lv_ior X.1 X.2.1 hd ?_
      rw [z0_or]
      exact kk

end ZB