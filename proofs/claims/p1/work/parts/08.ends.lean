theorem zl_mod (k : Nat) : lN (k % 18446744073709551616) = lN k := by
  apply Int64.toBitVec_inj.mp
  apply BitVec.eq_of_toNat_eq
  show (BitVec.ofNat 64 _).toNat = (BitVec.ofNat 64 _).toNat
  rw [BitVec.toNat_ofNat, BitVec.toNat_ofNat]
  omega
theorem zml_v {sz : Nat} {sv : Nat → Value} {ev : Nat → Int32} (k : Nat) : zvd sz sv ev (zml k) = .long (lN k) := by
  have h4 : zml k % 8 = 4 := by show (8 * (k % 18446744073709551616) + 4) % 8 = 4; omega
  have h8 : zml k / 8 = k % 18446744073709551616 := by show (8 * (k % 18446744073709551616) + 4) / 8 = _; omega
  rw [zvd_4 h4, h8, zl_mod]
theorem zcat {sz : Nat} {sv : Nat → Value} {ev : Nat → Int32} (hs : zSv sv) {v : Nat} (h : cond (zisI v) true (zisA v) = true) : (zvd sz sv ev v).category = 1 := by
  have : v % 8 ≠ 4 ∧ v % 8 ≠ 6 := by
    cases hi : zisI v with
    | true => rcases zisI_eq hi with h | h <;> omega
    | false => rw [hi] at h; rcases zisA_eq h with h | h | h <;> omega
  exact zcat1 this.1 this.2 hs.cat

section ZB
variable {sz : Nat} {sv : Nat → Value} {ev : Nat → Int32} {cl : List vw_C} {ar : zAr} {D : va_G}
variable {p : Program} {l : Launch} {e : Env} {R : Room} {s : State} {m : MethodId} {args : Array Value} {below : List Frame} {meth : Method} {c : Code} {Q : State → Prop}
variable {gw : List Cond} {cc : ByteArray} {own : String} {nL n0 ns0 : Nat} {r : zOut} {pc : Nat}

theorem gI_lconst (X : zCtx sz sv cl ar D p R s m args c gw cc own nL n0 ns0 r) {i : Fin 2} {v : Nat} (hd : decode cc pc = .ok (.lconst i, 1)) (hv : v % 8 = 4) (he : Int64.ofNat (i : Nat) = lN (v / 8)) : zGd sz sv ev cl ar D p l e R s m args below meth c Q nL n0 ns0 r pc 1 (zPush v) :=
  gPush X fun ls H locs cells slots st k => lv_lconst X.1 X.2.1 hd he (by rw [zvd_4 hv] at k; exact k)

theorem gI_i2l (X : zCtx sz sv cl ar D p R s m args c gw cc own nL n0 ns0 r) (hd : decode cc pc = .ok (.i2l, 1)) : zGd sz sv ev cl ar D p l e R s m args below meth c Q nL n0 ns0 r pc 1 zI2l := by
  intro k j hk hj L st hp n ns hr
  obtain ⟨x, t, rfl, q1⟩ := zpop_some hr
  clear hr
  obtain ⟨hx, hr⟩ := zck_some q1
  obtain ⟨hb, hr⟩ := zck_some hr
  obtain ⟨h1, h2, h3⟩ := hk L _ hp n ns hr
  refine ⟨h1, h2, fun ls H locs a b d => ?_⟩
  have kk := h3 ls H locs a b d
  simp only [List.map_cons] at kk ⊢
  have hx31 : x / 8 < 2 ^ 31 := by
    have : x + 1 ≤ 17179869184 := Nat.le_of_ble_eq_true hb
    omega
  have hx8 : x % 8 = 0 := zt_eq hx
  rw [zvd_0 hx8]
  have e4 : (Nat.add x 4) % 8 = 4 := by show (x + 4) % 8 = 4; omega
  have e8 : (Nat.add x 4) / 8 = x / 8 := by show (x + 4) / 8 = _; omega
  rw [zvd_4 e4, e8] at kk
  exact lv_i2l X.1 X.2.1 hd (nI_l hx31) kk

theorem gI_ladd (X : zCtx sz sv cl ar D p R s m args c gw cc own nL n0 ns0 r) (hd : decode cc pc = .ok (.ladd, 1)) : zGd sz sv ev cl ar D p l e R s m args below meth c Q nL n0 ns0 r pc 1 (zLbin Nat.add) := by
  intro k j hk hj L st hp n ns hr
  obtain ⟨y, t, rfl, q1⟩ := zpop_some hr
  clear hr
  obtain ⟨x, t, rfl, hr⟩ := zpop_some q1
  clear q1
  obtain ⟨hx, hr⟩ := zck_some hr
  obtain ⟨hy, hr⟩ := zck_some hr
  obtain ⟨h1, h2, h3⟩ := hk L _ hp n ns hr
  refine ⟨h1, h2, fun ls H locs a b d => ?_⟩
  have kk := h3 ls H locs a b d
  simp only [List.map_cons] at kk ⊢
  rw [zvd_4 (zt_eq hx), zvd_4 (zt_eq hy)]
  rw [zml_v] at kk
  refine lv_ladd X.1 X.2.1 hd ?_
  rw [lN_add]
  exact kk

theorem gI_lmul (X : zCtx sz sv cl ar D p R s m args c gw cc own nL n0 ns0 r) (hd : decode cc pc = .ok (.lmul, 1)) : zGd sz sv ev cl ar D p l e R s m args below meth c Q nL n0 ns0 r pc 1 (zLbin Nat.mul) := by
  intro k j hk hj L st hp n ns hr
  obtain ⟨y, t, rfl, q1⟩ := zpop_some hr
  clear hr
  obtain ⟨x, t, rfl, hr⟩ := zpop_some q1
  clear q1
  obtain ⟨hx, hr⟩ := zck_some hr
  obtain ⟨hy, hr⟩ := zck_some hr
  obtain ⟨h1, h2, h3⟩ := hk L _ hp n ns hr
  refine ⟨h1, h2, fun ls H locs a b d => ?_⟩
  have kk := h3 ls H locs a b d
  simp only [List.map_cons] at kk ⊢
  rw [zvd_4 (zt_eq hx), zvd_4 (zt_eq hy)]
  rw [zml_v] at kk
  refine lv_lmul X.1 X.2.1 hd ?_
  rw [lN_mul]
  exact kk

theorem gI_lcmp (X : zCtx sz sv cl ar D p R s m args c gw cc own nL n0 ns0 r) (hd : decode cc pc = .ok (.lcmp, 1)) : zGd sz sv ev cl ar D p l e R s m args below meth c Q nL n0 ns0 r pc 1 zLcmp := by
  intro k j hk hj L st hp n ns hr
  obtain ⟨y, t, rfl, q1⟩ := zpop_some hr
  clear hr
  obtain ⟨x, t, rfl, hr⟩ := zpop_some q1
  clear q1
  obtain ⟨hx, hr⟩ := zck_some hr
  obtain ⟨hy, hr⟩ := zck_some hr
  obtain ⟨hbx, hr⟩ := zck_some hr
  obtain ⟨hby, hr⟩ := zck_some hr
  obtain ⟨h1, h2, h3⟩ := hk L _ hp n ns hr
  refine ⟨h1, h2, fun ls H locs a b d => ?_⟩
  have kk := h3 ls H locs a b d
  simp only [List.map_cons] at kk ⊢
  have hx4 := zt_eq hx
  have hy4 := zt_eq hy
  rw [zvd_4 hx4, zvd_4 hy4]
  have hx63 : x / 8 < 2 ^ 63 := by
    have : x + 1 ≤ 73786976294838206464 := Nat.le_of_ble_eq_true hbx
    omega
  have hy63 : y / 8 < 2 ^ 63 := by
    have : y + 1 ≤ 73786976294838206464 := Nat.le_of_ble_eq_true hby
    omega
  refine W.lcmp X.1 X.2.1 hd ?_
  have e : zvd sz sv ev (cond (Nat.blt y x) 8 (cond (Nat.beq x y) 0 34359738360)) = .int (lg_cmp (lN (x / 8)) (lN (y / 8))) := by
    unfold lg_cmp
    cases h1 : Nat.blt y x with
    | true =>
      have : y + 1 ≤ x := Nat.le_of_ble_eq_true h1
      rw [if_pos ((pk_lLT hy63 hx63).mpr (by omega)), cond_true, zvd_0 (by decide)]
      rfl
    | false =>
      have hn : ¬ y + 1 ≤ x := fun z => by
        have := Nat.ble_eq_true_of_le z
        rw [show Nat.ble (y + 1) x = Nat.blt y x from rfl, h1] at this; cases this
      rw [if_neg (fun z => hn (by have := (pk_lLT hy63 hx63).mp z; omega)), cond_false]
      cases h2 : Nat.beq x y with
      | true =>
        have hxy := Nat.eq_of_beq_eq_true h2
        rw [if_pos (by rw [hxy]), cond_true, zvd_0 (by decide)]
        rfl
      | false =>
        have hne : x ≠ y := Nat.ne_of_beq_eq_false h2
        rw [if_neg (fun z => hne (by have := (pk_lEQ hx63 hy63).mp z; omega)), cond_false, zvd_0 (by decide)]
        exact congrArg Value.int (by decide)
  rw [e] at kk
  exact kk

theorem zd7 {x : Nat} (h : x % 8 = 7) (d : Nat) : (Nat.add x (Nat.mul 8 d)) % 8 = 7 ∧ (Nat.add x (Nat.mul 8 d)) / 8 = x / 8 + d := by
  show (x + 8 * d) % 8 = 7 ∧ (x + 8 * d) / 8 = _
  omega

theorem gI_i2c {dr : Nat × Nat × Nat} (hD : zDer ev dr) (X : zCtx sz sv cl ar D p R s m args c gw cc own nL n0 ns0 r) (hd : decode cc pc = .ok (.i2c, 1)) : zGd sz sv ev cl ar D p l e R s m args below meth c Q nL n0 ns0 r pc 1 (zI2c dr.1) := by
  intro k j hk hj L st hp n ns hr
  obtain ⟨x, t, rfl, q1⟩ := zpop_some hr
  clear hr
  cases hx : zt x 0 with
  | true =>
    simp only [hx, cond_true] at q1
    obtain ⟨h1, h2, h3⟩ := hk L _ hp n ns q1
    refine ⟨h1, h2, fun ls H locs a b d => ?_⟩
    have kk := h3 ls H locs a b d
    simp only [List.map_cons] at kk ⊢
    rw [zvd_0 (zt_eq hx)]
    have e0 : (Nat.mul 8 (Nat.mod (Nat.div x 8) 65536)) % 8 = 0 := by show (8 * (x / 8 % 65536)) % 8 = 0; omega
    have e8 : (Nat.mul 8 (Nat.mod (Nat.div x 8) 65536)) / 8 = x / 8 % 65536 := by show (8 * (x / 8 % 65536)) / 8 = _; omega
    rw [zvd_0 e0, e8] at kk
    refine lv_i2c X.1 X.2.1 hd ?_ kk
    rw [pk_char, zi_tn]
    exact congrArg nI (by omega)
  | false =>
    simp only [hx, cond_false] at q1
    obtain ⟨h7, hr⟩ := zck_some q1
    obtain ⟨h1, h2, h3⟩ := hk L _ hp n ns hr
    refine ⟨h1, h2, fun ls H locs a b d => ?_⟩
    have kk := h3 ls H locs a b d
    simp only [List.map_cons] at kk ⊢
    obtain ⟨e1, e2⟩ := zd7 (zt_eq h7) dr.1
    rw [zvd_7 (zt_eq h7)]
    rw [zvd_7 e1, e2] at kk
    exact lv_i2c X.1 X.2.1 hd (hD _).1.symm kk

theorem zb8 : ∀ n, n < 128 → (nI n).toInt8.toInt32 = nI n := by decide +kernel
theorem gI_i2b {dr : Nat × Nat × Nat} (hD : zDer ev dr) (X : zCtx sz sv cl ar D p R s m args c gw cc own nL n0 ns0 r) (hd : decode cc pc = .ok (.i2b, 1)) : zGd sz sv ev cl ar D p l e R s m args below meth c Q nL n0 ns0 r pc 1 (zI2b dr.2.1) := by
  intro k j hk hj L st hp n ns hr
  obtain ⟨x, t, rfl, q1⟩ := zpop_some hr
  clear hr
  cases hx : zt x 0 with
  | true =>
    simp only [hx, cond_true] at q1
    obtain ⟨hb, q1⟩ := zck_some q1
    obtain ⟨h1, h2, h3⟩ := hk L _ hp n ns q1
    refine ⟨h1, h2, fun ls H locs a b d => ?_⟩
    have kk := h3 ls H locs a b d
    simp only [List.map_cons] at kk ⊢
    rw [zvd_0 (zt_eq hx)] at kk ⊢
    have : x + 1 ≤ 1024 := Nat.le_of_ble_eq_true hb
    exact lv_i2b X.1 X.2.1 hd (zb8 _ (by omega)) kk
  | false =>
    simp only [hx, cond_false] at q1
    obtain ⟨h7, hr⟩ := zck_some q1
    obtain ⟨h1, h2, h3⟩ := hk L _ hp n ns hr
    refine ⟨h1, h2, fun ls H locs a b d => ?_⟩
    have kk := h3 ls H locs a b d
    simp only [List.map_cons] at kk ⊢
    obtain ⟨e1, e2⟩ := zd7 (zt_eq h7) dr.2.1
    rw [zvd_7 (zt_eq h7)]
    rw [zvd_7 e1, e2] at kk
    exact lv_i2b X.1 X.2.1 hd (hD _).2.1.symm kk

theorem gI_iushrS {dr : Nat × Nat × Nat} (hD : zDer ev dr) (X : zCtx sz sv cl ar D p R s m args c gw cc own nL n0 ns0 r) (hd : decode cc pc = .ok (.iushr, 1)) : zGd sz sv ev cl ar D p l e R s m args below meth c Q nL n0 ns0 r pc 1 (zUshS dr.2.2) := by
  intro k j hk hj L st hp n ns hr
  obtain ⟨y, t, rfl, q1⟩ := zpop_some hr
  clear hr
  obtain ⟨x, t, rfl, hr⟩ := zpop_some q1
  clear q1
  cases hc : cond (zt x 0) (zt y 0) false with
  | true =>
    have hxy : zt x 0 = true ∧ zt y 0 = true := by
      cases hx : zt x 0 <;> rw [hx] at hc
      · cases hc
      · exact ⟨rfl, hc⟩
    simp only [hc, cond_true] at hr
    obtain ⟨h1, h2, h3⟩ := hk L _ hp n ns hr
    refine ⟨h1, h2, fun ls H locs a b d => ?_⟩
    have kk := h3 ls H locs a b d
    simp only [List.map_cons] at kk ⊢
    rw [zvd_0 (zt_eq hxy.1), zvd_0 (zt_eq hxy.2)]
    rw [zmk_v] at kk
    exact lv_iushr X.1 X.2.1 hd (zi_ushr _ _) kk
  | false =>
    simp only [hc, cond_false] at hr
    obtain ⟨h7, hr⟩ := zck_some hr
    obtain ⟨hb, hr⟩ := zck_some hr
    obtain ⟨h1, h2, h3⟩ := hk L _ hp n ns hr
    refine ⟨h1, h2, fun ls H locs a b d => ?_⟩
    have kk := h3 ls H locs a b d
    simp only [List.map_cons] at kk ⊢
    have hE := Nat.eq_of_beq_eq_true hb
    subst hE
    obtain ⟨e1, e2⟩ := zd7 (zt_eq h7) dr.2.2
    rw [zvd_7 (zt_eq h7), zvd_0 (v := 64) (by decide)]
    rw [zvd_7 e1, e2] at kk
    exact lv_iushr X.1 X.2.1 hd (hD _).2.2.symm kk

theorem zsw_some {lo hi d : Nat} {k : Nat → zR} {r : zOut} {x : Int32} {pc : Nat} {dd : Int} (hlo : lo ≤ zbi x) (hhi : zbi x ≤ hi) (hd : (pc : Int) + dd = (d : Int)) : ∀ (ps : List (Int × Int)) (tb : List (Nat × Nat)), (∀ q ∈ ps, -2147483648 ≤ q.1) → (∀ q ∈ ps, 0 ≤ (pc : Int) + q.2) → ps.map (fun q => ((q.1 + 2147483648).toNat, ((pc : Int) + q.2).toNat)) = tb → zsw lo hi d tb k = some r →
    ∃ tg : Nat, (pc : Int) + Op.lookupswitch.offset ps dd x.toInt = (tg : Int) ∧ k tg = some r
  | [], tb, _, _, h, hr => by
    subst h
    exact ⟨d, hd, hr⟩
  | q :: ps, tb, h1, h2, h, hr => by
    subst h
    have ih := zsw_some (k := k) (r := r) hlo hhi hd ps _ (fun q hq => h1 q (List.mem_cons_of_mem _ hq)) (fun q hq => h2 q (List.mem_cons_of_mem _ hq)) rfl
    have hx := x.minValue_le_toInt
    have e : (Int32.minValue).toInt = -2147483648 := by decide
    rw [e] at hx
    have hq := h1 q List.mem_cons_self
    have hr' : cond (Nat.blt hi (q.1 + 2147483648).toNat) (zsw lo hi d (ps.map (fun q => ((q.1 + 2147483648).toNat, ((pc : Int) + q.2).toNat))) k) (cond (Nat.blt (q.1 + 2147483648).toNat lo) (zsw lo hi d (ps.map (fun q => ((q.1 + 2147483648).toNat, ((pc : Int) + q.2).toNat))) k) (zck (Nat.beq lo hi) (k ((pc : Int) + q.2).toNat))) = some r := hr
    rw [Op.lookupswitch.offset_cons q.1 q.2]
    cases hb : Nat.blt hi (q.1 + 2147483648).toNat with
    | true =>
      rw [hb] at hr'
      have : hi + 1 ≤ (q.1 + 2147483648).toNat := Nat.le_of_ble_eq_true hb
      rw [if_neg (fun z => by unfold zbi at hhi; omega)]
      exact ih hr'
    | false =>
      rw [hb] at hr'
      cases hb2 : Nat.blt (q.1 + 2147483648).toNat lo with
      | true =>
        rw [hb2] at hr'
        have : (q.1 + 2147483648).toNat + 1 ≤ lo := Nat.le_of_ble_eq_true hb2
        rw [if_neg (fun z => by unfold zbi at hlo; omega)]
        exact ih hr'
      | false =>
        rw [hb2] at hr'
        obtain ⟨g, hr2⟩ := zck_some hr'
        have g' := Nat.eq_of_beq_eq_true g
        have n1 : ¬ hi + 1 ≤ (q.1 + 2147483648).toNat := fun z => by
          have := Nat.ble_eq_true_of_le z
          rw [show Nat.ble (hi + 1) (q.1 + 2147483648).toNat = Nat.blt hi (q.1 + 2147483648).toNat from rfl, hb] at this; cases this
        have n2 : ¬ (q.1 + 2147483648).toNat + 1 ≤ lo := fun z => by
          have := Nat.ble_eq_true_of_le z
          rw [show Nat.ble ((q.1 + 2147483648).toNat + 1) lo = Nat.blt (q.1 + 2147483648).toNat lo from rfl, hb2] at this; cases this
        rw [if_pos (by unfold zbi at hlo hhi; omega)]
        exact ⟨_, by have := h2 q List.mem_cons_self; omega, hr2⟩

theorem gI_lookup {iv : Nat → Nat × Nat} (hv : zIv ev iv) (X : zCtx sz sv cl ar D p R s m args c gw cc own nL n0 ns0 r) {dd : Int} {ps : Array (Int × Int)} {len d : Nat} {tb : List (Nat × Nat)} (hd : decode cc pc = .ok (.lookupswitch dd ps, len)) (hs : (ps.toList.zip (ps.toList.drop 1)).all (fun (a, next) => a.1 < next.1) = true)
    (h1 : ∀ q ∈ ps.toList, -2147483648 ≤ q.1) (h2 : ∀ q ∈ ps.toList, 0 ≤ (pc : Int) + q.2) (h3 : ps.toList.map (fun q => ((q.1 + 2147483648).toNat, ((pc : Int) + q.2).toNat)) = tb) (h4 : (pc : Int) + dd = (d : Int)) : zGd sz sv ev cl ar D p l e R s m args below meth c Q nL n0 ns0 r pc len (zSw iv d tb) := by
  intro k j hk hj L st hp n ns hr
  obtain ⟨x, t, rfl, q1⟩ := zpop_some hr
  clear hr
  obtain ⟨hx, hr⟩ := zck_some q1
  obtain ⟨U, e1, l1, u1⟩ := zlohi (sz := sz) (sv := sv) hv hx
  obtain ⟨tg, ht, hr⟩ := zsw_some l1 u1 h4 ps.toList tb h1 h2 h3 hr
  obtain ⟨g1, g2, g3⟩ := hj tg L _ hp n ns hr
  refine ⟨g1, g2, fun ls H locs a b d' => ?_⟩
  have kk := g3 ls H locs a b d'
  simp only [List.map_cons]
  rw [e1]
  exact lv_lookup X.1 X.2.1 hd hs rfl ht kk

theorem znth_eq (d : Nat) : ∀ (tb : List Nat) (i : Nat), znth i d tb = tb.getD i d
  | [], i => by simp [znth]
  | q :: t, 0 => rfl
  | q :: t, i + 1 => by
    have ih := znth_eq d t i
    show cond (Nat.beq (i + 1) 0) q (znth i d t) = _
    rw [ih, show Nat.beq (i + 1) 0 = false from rfl]
    simp
theorem gI_table (X : zCtx sz sv cl ar D p R s m args c gw cc own nL n0 ns0 r) {dd : Int} {hi : Int} {of : Array Int} {len d : Nat} {tb : List Nat} (hd : decode cc pc = .ok (.tableswitch dd 0 hi of, len)) (hh : hi + 1 = (tb.length : Int)) (hl : hi < 2147483647) (h2 : of.toList.map (fun q => ((pc : Int) + q).toNat) = tb) (h3 : ∀ q ∈ of.toList, 0 ≤ (pc : Int) + q) (h4 : (pc : Int) + dd = (d : Int)) : zGd sz sv ev cl ar D p l e R s m args below meth c Q nL n0 ns0 r pc len (zTs d tb) := by
  intro k j hk hj L st hp n ns hr
  obtain ⟨x, t, rfl, q1⟩ := zpop_some hr
  clear hr
  obtain ⟨hx, hr⟩ := zck_some q1
  obtain ⟨hb, hr⟩ := zck_some hr
  obtain ⟨g1, g2, g3⟩ := hj _ L _ hp n ns hr
  refine ⟨g1, g2, fun ls H locs a b d' => ?_⟩
  have kk := g3 ls H locs a b d'
  simp only [List.map_cons]
  rw [zvd_0 (zt_eq hx)]
  have hx31 : x / 8 < 2 ^ 31 := by
    have : x + 1 ≤ 17179869184 := Nat.le_of_ble_eq_true hb
    omega
  rw [show Nat.div x 8 = x / 8 from rfl, znth_eq] at kk
  have hti := nI_toInt hx31
  by_cases hlt : x / 8 < tb.length
  · have hlt' : x / 8 < of.toList.length := by rw [← h2] at hlt; simpa using hlt
    refine lv_tableIn X.1 X.2.1 hd (by rw [hti]; omega) (by rw [hti]; omega) (off := of.toList[x / 8]) ?_ (tgt := ((pc : Int) + of.toList[x / 8]).toNat) ?_ ?_
    · rw [hti]
      have : ((x / 8 : Nat) - 0 : Int).toNat = x / 8 := by omega
      rw [this, ← Array.getElem?_toList]
      exact List.getElem?_eq_getElem hlt'
    · have := h3 _ (List.getElem_mem hlt')
      omega
    · have e : tb.getD (x / 8) d = ((pc : Int) + of.toList[x / 8]).toNat := by
        subst h2
        rw [List.getD_eq_getElem?_getD, List.getElem?_map, List.getElem?_eq_getElem hlt']
        rfl
      rw [e] at kk
      exact kk
  · rw [List.getD_eq_getElem?_getD, List.getElem?_eq_none (by omega)] at kk
    exact lv_tableOut X.1 X.2.1 hd (Or.inr (by rw [hti]; omega)) h4 kk

theorem gI_dup (hs : zSv sv) (X : zCtx sz sv cl ar D p R s m args c gw cc own nL n0 ns0 r) (hd : decode cc pc = .ok (.dup, 1)) : zGd sz sv ev cl ar D p l e R s m args below meth c Q nL n0 ns0 r pc 1 zDup := by
  intro k j hk hj L st hp n ns hr
  obtain ⟨x, t, rfl, q1⟩ := zpop_some hr
  clear hr
  obtain ⟨hx, hr⟩ := zck_some q1
  obtain ⟨h1, h2, h3⟩ := hk L _ hp n ns hr
  refine ⟨h1, h2, fun ls H locs a b d => ?_⟩
  have kk := h3 ls H locs a b d
  simp only [List.map_cons] at kk ⊢
  exact lv_dup X.1 X.2.1 hd (zcat hs hx) kk
theorem gI_pop (hs : zSv sv) (X : zCtx sz sv cl ar D p R s m args c gw cc own nL n0 ns0 r) (hd : decode cc pc = .ok (.pop, 1)) : zGd sz sv ev cl ar D p l e R s m args below meth c Q nL n0 ns0 r pc 1 zPop := by
  intro k j hk hj L st hp n ns hr
  obtain ⟨x, t, rfl, q1⟩ := zpop_some hr
  clear hr
  obtain ⟨hx, hr⟩ := zck_some q1
  obtain ⟨h1, h2, h3⟩ := hk L _ hp n ns hr
  refine ⟨h1, h2, fun ls H locs a b d => ?_⟩
  have kk := h3 ls H locs a b d
  simp only [List.map_cons] at kk ⊢
  exact lv_pop X.1 X.2.1 hd (zcat hs hx) kk

theorem gI_dup_x1 (hs : zSv sv) (X : zCtx sz sv cl ar D p R s m args c gw cc own nL n0 ns0 r) (hd : decode cc pc = .ok (.dup_x1, 1)) : zGd sz sv ev cl ar D p l e R s m args below meth c Q nL n0 ns0 r pc 1 zDupX1 := by
  intro k j hk hj L st hp n ns hr
  obtain ⟨y, t, rfl, q1⟩ := zpop_some hr
  clear hr
  obtain ⟨x, t, rfl, hr⟩ := zpop_some q1
  clear q1
  obtain ⟨hx, hr⟩ := zck_some hr
  obtain ⟨hy, hr⟩ := zck_some hr
  obtain ⟨h1, h2, h3⟩ := hk L _ hp n ns hr
  refine ⟨h1, h2, fun ls H locs a b d => ?_⟩
  have kk := h3 ls H locs a b d
  simp only [List.map_cons] at kk ⊢
  exact lv_dup_x1 X.1 X.2.1 hd (zcat hs hx) (zcat hs hy) kk

theorem gI_dup2 (hs : zSv sv) (X : zCtx sz sv cl ar D p R s m args c gw cc own nL n0 ns0 r) (hd : decode cc pc = .ok (.dup2, 1)) : zGd sz sv ev cl ar D p l e R s m args below meth c Q nL n0 ns0 r pc 1 zDup2 := by
  intro k j hk hj L st hp n ns hr
  obtain ⟨y, t, rfl, q1⟩ := zpop_some hr
  clear hr
  obtain ⟨x, t, rfl, hr⟩ := zpop_some q1
  clear q1
  obtain ⟨hx, hr⟩ := zck_some hr
  obtain ⟨hy, hr⟩ := zck_some hr
  obtain ⟨h1, h2, h3⟩ := hk L _ hp n ns hr
  refine ⟨h1, h2, fun ls H locs a b d => ?_⟩
  have kk := h3 ls H locs a b d
  simp only [List.map_cons] at kk ⊢
  exact lv_dup2_11 X.1 X.2.1 hd (zcat hs hx) (zcat hs hy) kk

theorem gI_ifnull (X : zCtx sz sv cl ar D p R s m args c gw cc own nL n0 ns0 r) {off : Int} {tg : Nat} (hd : decode cc pc = .ok (.ifnull off, 3)) (ht : (pc : Int) + off = (tg : Int)) : zGd sz sv ev cl ar D p l e R s m args below meth c Q nL n0 ns0 r pc 3 (zJnul false tg) := by
  intro k j hk hj L st hp n ns hr
  obtain ⟨x, t, rfl, q1⟩ := zpop_some hr
  clear hr
  cases h3' : zt x 3 with
  | true =>
    simp only [h3', cond_true, cond_false] at q1
    obtain ⟨h1, h2, h3⟩ := hj tg L _ hp n ns q1
    refine ⟨h1, h2, fun ls H locs a b d => ?_⟩
    have kk := h3 ls H locs a b d
    simp only [List.map_cons]
    rw [zvd_3 (zt_eq h3')]
    exact lv_ifnullN X.1 X.2.1 hd ht kk
  | false =>
    simp only [h3', cond_false, cond_true] at q1
    obtain ⟨hx, hr⟩ := zck_some q1
    obtain ⟨h1, h2, h3⟩ := hk L _ hp n ns hr
    refine ⟨h1, h2, fun ls H locs a b d => ?_⟩
    have kk := h3 ls H locs a b d
    simp only [List.map_cons]
    rw [zvd_1 (zt_eq hx)]
    exact lv_ifnull X.1 X.2.1 hd kk

theorem gI_ifnonnull (X : zCtx sz sv cl ar D p R s m args c gw cc own nL n0 ns0 r) {off : Int} {tg : Nat} (hd : decode cc pc = .ok (.ifnonnull off, 3)) (ht : (pc : Int) + off = (tg : Int)) : zGd sz sv ev cl ar D p l e R s m args below meth c Q nL n0 ns0 r pc 3 (zJnul true tg) := by
  intro k j hk hj L st hp n ns hr
  obtain ⟨x, t, rfl, q1⟩ := zpop_some hr
  clear hr
  cases h3' : zt x 3 with
  | true =>
    simp only [h3', cond_true, cond_false] at q1
    obtain ⟨h1, h2, h3⟩ := hk L _ hp n ns q1
    refine ⟨h1, h2, fun ls H locs a b d => ?_⟩
    have kk := h3 ls H locs a b d
    simp only [List.map_cons]
    rw [zvd_3 (zt_eq h3')]
    exact lv_ifnonnullN X.1 X.2.1 hd kk
  | false =>
    simp only [h3', cond_false, cond_true] at q1
    obtain ⟨hx, hr⟩ := zck_some q1
    obtain ⟨h1, h2, h3⟩ := hj tg L _ hp n ns hr
    refine ⟨h1, h2, fun ls H locs a b d => ?_⟩
    have kk := h3 ls H locs a b d
    simp only [List.map_cons]
    rw [zvd_1 (zt_eq hx)]
    exact lv_ifnonnull X.1 X.2.1 hd ht kk

/-- what a method that ends well leaves -/
def zPost (sz : Nat) (sv : Nat → Value) (ev : Nat → Int32) (cl : List vw_C) (ar : zAr) (D : va_G) (r : zOut) (st t : State) : Prop :=
  va_P D cl (zren sz sv ev cl ar r.2.2.1) t.heap ∧ zwf r.2.2.2.1 r.2.2.1 ∧ t.heap.size = sz + r.2.2.2.1 ∧ ∀ q, q < sz → t.heap[q]? = st.heap[q]?
def zov (sz : Nat) (sv : Nat → Value) (ev : Nat → Int32) (r : zOut) : Option Value := if r.1 = 0 then none else some (zvd sz sv ev r.2.1)
def zQc (sz : Nat) (sv : Nat → Value) (ev : Nat → Int32) (cl : List vw_C) (ar : zAr) (D : va_G) (r : zOut) : Array Value → State → Outcome → State → Prop := fun _ st o t => o = .returned (zov sz sv ev r) ∧ zPost sz sv ev cl ar D r st t
/-- what a frame owes at a good end -/
def zOwe (sz : Nat) (sv : Nat → Value) (ev : Nat → Int32) (cl : List vw_C) (ar : zAr) (D : va_G) (p : Program) (l : Launch) (e : Env) (R : Room) (s : State) (m : MethodId) (args : Array Value) (below : List Frame) (meth : Method) (c : Code) (Q : State → Prop) (n0 ns0 : Nat) (r : zOut) : Prop :=
  ∀ H locs g, W p l e R s m args below meth c H locs (r.2.2.2.1 - n0) (r.2.2.2.2 - ns0) (MQ below (zQc sz sv ev cl ar D r) args s (r.2.2.2.1 - n0) (r.2.2.2.2 - ns0) (zA sz)) g → W p l e R s m args below meth c H locs (r.2.2.2.1 - n0) (r.2.2.2.2 - ns0) Q g
theorem zInv_post {n : Nat} {H : Heap} {locs : List Loc} {hp : zHp} {k v ns n0 : Nat} (hs : s.heap.size = sz + n0) (b : zInv sz sv ev cl ar D s hp n H locs) {t : State} (ht : t.heap = H) : zPost sz sv ev cl ar D (k, v, hp, n, ns) s t := by
  subst ht
  exact ⟨b.1, b.2.1, b.2.2.1, fun q hq => b.2.2.2.2.1 q (by omega) (fun z => by have : sz ≤ q := z; omega)⟩

theorem gI_return (X : zCtx sz sv cl ar D p R s m args c gw cc own nL n0 ns0 r) (hO : zOwe sz sv ev cl ar D p l e R s m args below meth c Q n0 ns0 r) (hlk : meth.locks = false) (hret : meth.sig.returnType = none) (hd : decode cc pc = .ok (.return_, 1)) : zGd sz sv ev cl ar D p l e R s m args below meth c Q nL n0 ns0 r pc 1 zRet0 := by
  intro k j hk hj L st hp n ns hr
  cases st with
  | cons v t => cases hr
  | nil =>
    have e : r = (0, 0, hp, n, ns) := (Option.some.inj hr).symm
    subst e
    refine ⟨Nat.le_refl _, Nat.le_refl _, fun ls H locs a b d => hO _ _ _ ?_⟩
    exact W.vret X.1 X.2.1 hret (fun t ht _ => ⟨rfl, zInv_post X.2.2.2.2.2.2.1 b ht⟩) (fun q hq => b.2.2.2.2.2 q hq) hd hlk
theorem gI_ireturn {ok : Nat → Bool} {ty : FieldType} (hok : ∀ v, ok v = true → ∃ x, zvd sz sv ev v = .int x ∧ narrow ty (.int x) = .int x) (X : zCtx sz sv cl ar D p R s m args c gw cc own nL n0 ns0 r) (hO : zOwe sz sv ev cl ar D p l e R s m args below meth c Q n0 ns0 r) (hlk : meth.locks = false) (hret : meth.sig.returnType = some ty) (hd : decode cc pc = .ok (.ireturn, 1)) : zGd sz sv ev cl ar D p l e R s m args below meth c Q nL n0 ns0 r pc 1 (zRetV ok) := by
  intro k j hk hj L st hp n ns hr
  obtain ⟨v, t, rfl, q1⟩ := zpop_some hr
  clear hr
  obtain ⟨hv, hr⟩ := zck_some q1
  cases t with
  | cons v t => cases hr
  | nil =>
    have e : r = (1, v, hp, n, ns) := (Option.some.inj hr).symm
    subst e
    obtain ⟨x, hx, hnx⟩ := hok v hv
    refine ⟨Nat.le_refl _, Nat.le_refl _, fun ls H locs a b d => hO _ _ _ ?_⟩
    simp only [List.map_cons, List.map_nil]
    rw [hx]
    exact W.zret X.1 X.2.1 hret hnx (fun t ht _ => ⟨by show _ = Outcome.returned (some (zvd sz sv ev v)); rw [hx], zInv_post X.2.2.2.2.2.2.1 b ht⟩) (fun q hq => b.2.2.2.2.2 q hq) hd hlk
theorem gI_areturn (hs : zSv sv) {rt : FieldType} (X : zCtx sz sv cl ar D p R s m args c gw cc own nL n0 ns0 r) (hO : zOwe sz sv ev cl ar D p l e R s m args below meth c Q n0 ns0 r) (hlk : meth.locks = false) (hret : meth.sig.returnType = some rt) (hrt : (∃ n, rt = .object n) ∨ ∃ t, rt = .array t) (hd : decode cc pc = .ok (.areturn, 1)) : zGd sz sv ev cl ar D p l e R s m args below meth c Q nL n0 ns0 r pc 1 (zRetV zisA) := by
  intro k j hk hj L st hp n ns hr
  obtain ⟨v, t, rfl, q1⟩ := zpop_some hr
  clear hr
  obtain ⟨hv, hr⟩ := zck_some q1
  cases t with
  | cons v t => cases hr
  | nil =>
    have e : r = (1, v, hp, n, ns) := (Option.some.inj hr).symm
    subst e
    refine ⟨Nat.le_refl _, Nat.le_refl _, fun ls H locs a b d => hO _ _ _ ?_⟩
    exact W.aret X.1 X.2.1 hret hrt (zA_ref hs hv) (fun t ht _ => ⟨rfl, zInv_post X.2.2.2.2.2.2.1 b ht⟩) (fun q hq => b.2.2.2.2.2 q hq) hd hlk

theorem gI_lreturn (X : zCtx sz sv cl ar D p R s m args c gw cc own nL n0 ns0 r) (hO : zOwe sz sv ev cl ar D p l e R s m args below meth c Q n0 ns0 r) (hlk : meth.locks = false) (hret : meth.sig.returnType = some .long) (hd : decode cc pc = .ok (.lreturn, 1)) : zGd sz sv ev cl ar D p l e R s m args below meth c Q nL n0 ns0 r pc 1 (zRetV (fun v => zt v 4)) := by
  intro k j hk hj L st hp n ns hr
  obtain ⟨v, t, rfl, q1⟩ := zpop_some hr
  clear hr
  obtain ⟨hv, hr⟩ := zck_some q1
  cases t with
  | cons v t => cases hr
  | nil =>
    have e : r = (1, v, hp, n, ns) := (Option.some.inj hr).symm
    subst e
    refine ⟨Nat.le_refl _, Nat.le_refl _, fun ls H locs a b d => hO _ _ _ ?_⟩
    simp only [List.map_cons, List.map_nil]
    rw [zvd_4 (zt_eq hv)]
    exact W.lret X.1 X.2.1 hret (fun t ht _ => ⟨by show _ = Outcome.returned (some (zvd sz sv ev v)); rw [zvd_4 (zt_eq hv)], zInv_post X.2.2.2.2.2.2.1 b ht⟩) (fun q hq => b.2.2.2.2.2 q hq) hd hlk

theorem gI_freturn (X : zCtx sz sv cl ar D p R s m args c gw cc own nL n0 ns0 r) (hO : zOwe sz sv ev cl ar D p l e R s m args below meth c Q n0 ns0 r) (hlk : meth.locks = false) (hret : meth.sig.returnType = some .float) (hd : decode cc pc = .ok (.freturn, 1)) : zGd sz sv ev cl ar D p l e R s m args below meth c Q nL n0 ns0 r pc 1 (zRetV (fun v => zt v 5)) := by
  intro k j hk hj L st hp n ns hr
  obtain ⟨v, t, rfl, q1⟩ := zpop_some hr
  clear hr
  obtain ⟨hv, hr⟩ := zck_some q1
  cases t with
  | cons v t => cases hr
  | nil =>
    have e : r = (1, v, hp, n, ns) := (Option.some.inj hr).symm
    subst e
    refine ⟨Nat.le_refl _, Nat.le_refl _, fun ls H locs a b d => hO _ _ _ ?_⟩
    simp only [List.map_cons, List.map_nil]
    rw [zvd_5 (zt_eq hv)]
    exact W.fret X.1 X.2.1 hret (fun t ht _ => ⟨by show _ = Outcome.returned (some (zvd sz sv ev v)); rw [zvd_5 (zt_eq hv)], zInv_post X.2.2.2.2.2.2.1 b ht⟩) (fun q hq => b.2.2.2.2.2 q hq) hd hlk

theorem gI_dreturn (X : zCtx sz sv cl ar D p R s m args c gw cc own nL n0 ns0 r) (hO : zOwe sz sv ev cl ar D p l e R s m args below meth c Q n0 ns0 r) (hlk : meth.locks = false) (hret : meth.sig.returnType = some .double) (hd : decode cc pc = .ok (.dreturn, 1)) : zGd sz sv ev cl ar D p l e R s m args below meth c Q nL n0 ns0 r pc 1 (zRetV (fun v => zt v 6)) := by
  intro k j hk hj L st hp n ns hr
  obtain ⟨v, t, rfl, q1⟩ := zpop_some hr
  clear hr
  obtain ⟨hv, hr⟩ := zck_some q1
  cases t with
  | cons v t => cases hr
  | nil =>
    have e : r = (1, v, hp, n, ns) := (Option.some.inj hr).symm
    subst e
    refine ⟨Nat.le_refl _, Nat.le_refl _, fun ls H locs a b d => hO _ _ _ ?_⟩
    simp only [List.map_cons, List.map_nil]
    rw [zvd_6 (zt_eq hv)]
    exact W.dret X.1 X.2.1 hret (fun t ht _ => ⟨by show _ = Outcome.returned (some (zvd sz sv ev v)); rw [zvd_6 (zt_eq hv)], zInv_post X.2.2.2.2.2.2.1 b ht⟩) (fun q hq => b.2.2.2.2.2 q hq) hd hlk

end ZB