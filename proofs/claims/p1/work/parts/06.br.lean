section ZB
variable {sz : Nat} {sv : Nat → Value} {ev : Nat → Int32} {cl : List vw_C} {ar : zAr} {D : va_G}
variable {p : Program} {l : Launch} {e : Env} {R : Room} {s : State} {m : MethodId} {args : Array Value} {below : List Frame} {meth : Method} {c : Code} {Q : State → Prop}
variable {gw : List Cond} {cc : ByteArray} {own : String} {nL n0 ns0 : Nat} {r : zOut} {pc : Nat}

theorem gBin (X : zCtx sz sv cl ar D p R s m args c gw cc own nL n0 ns0 r) {f : Nat → Nat → Nat} {g : Int32 → Int32 → Int32} {len : Nat} (hf : ∀ a b, g (nI a) (nI b) = nI (f a b))
    (h : ∀ ls H locs cells slots st x y, W p l e R s m args below meth c H locs cells slots Q (F0 m (pc + len) ls (.int (g x y) :: st)) → W p l e R s m args below meth c H locs cells slots Q (F0 m pc ls (.int y :: .int x :: st))) :
    zGd sz sv ev cl ar D p l e R s m args below meth c Q nL n0 ns0 r pc len (zBin f) := by
  intro k j hk hj L st hp n ns hr
  obtain ⟨y, t, rfl, q1⟩ := zpop_some hr
  clear hr
  obtain ⟨x, t, rfl, hr⟩ := zpop_some q1
  clear q1
  obtain ⟨hx, hr⟩ := zck_some hr
  obtain ⟨hy, hr⟩ := zck_some hr
  obtain ⟨h1, h2, h3⟩ := hk L _ hp n ns hr
  refine ⟨h1, h2, fun ls H locs a b d => ?_⟩
  have kk := h3 ls H locs a b d
  simp only [List.map_cons] at kk ⊢
  rw [zvd_0 (zt_eq hx), zvd_0 (zt_eq hy)]
  rw [zmk_v, ← hf] at kk
  exact h ls H locs _ _ _ _ _ kk

theorem gI_iadd (X : zCtx sz sv cl ar D p R s m args c gw cc own nL n0 ns0 r) (hd : decode cc pc = .ok (.iadd, 1)) : zGd sz sv ev cl ar D p l e R s m args below meth c Q nL n0 ns0 r pc 1 (zBin Nat.add) :=
  gBin X (g := fun x y => x + y) (fun a b => nI_add a b) fun ls H locs cells slots st x y kk => lv_iadd X.1 X.2.1 hd kk

theorem gI_isub (X : zCtx sz sv cl ar D p R s m args c gw cc own nL n0 ns0 r) (hd : decode cc pc = .ok (.isub, 1)) : zGd sz sv ev cl ar D p l e R s m args below meth c Q nL n0 ns0 r pc 1 (zBin zfSub) :=
  gBin X (g := fun x y => x - y) (zi_sub) fun ls H locs cells slots st x y kk => lv_isub X.1 X.2.1 hd kk

theorem gI_imul (X : zCtx sz sv cl ar D p R s m args c gw cc own nL n0 ns0 r) (hd : decode cc pc = .ok (.imul, 1)) : zGd sz sv ev cl ar D p l e R s m args below meth c Q nL n0 ns0 r pc 1 (zBin Nat.mul) :=
  gBin X (g := fun x y => x * y) (fun a b => pk_mul a b) fun ls H locs cells slots st x y kk => lv_imul X.1 X.2.1 hd kk

theorem gI_iand (X : zCtx sz sv cl ar D p R s m args c gw cc own nL n0 ns0 r) (hd : decode cc pc = .ok (.iand, 1)) : zGd sz sv ev cl ar D p l e R s m args below meth c Q nL n0 ns0 r pc 1 (zBin Nat.land) :=
  gBin X (g := fun x y => x &&& y) (zi_and) fun ls H locs cells slots st x y kk => lv_iand X.1 X.2.1 hd kk

theorem gI_ior (X : zCtx sz sv cl ar D p R s m args c gw cc own nL n0 ns0 r) (hd : decode cc pc = .ok (.ior, 1)) : zGd sz sv ev cl ar D p l e R s m args below meth c Q nL n0 ns0 r pc 1 (zBin Nat.lor) :=
  gBin X (g := fun x y => x ||| y) (zi_or) fun ls H locs cells slots st x y kk => lv_ior X.1 X.2.1 hd kk

theorem gI_ixor (X : zCtx sz sv cl ar D p R s m args c gw cc own nL n0 ns0 r) (hd : decode cc pc = .ok (.ixor, 1)) : zGd sz sv ev cl ar D p l e R s m args below meth c Q nL n0 ns0 r pc 1 (zBin Nat.xor) :=
  gBin X (g := fun x y => x ^^^ y) (zi_xor) fun ls H locs cells slots st x y kk => lv_ixor X.1 X.2.1 hd kk

theorem gI_ishl (X : zCtx sz sv cl ar D p R s m args c gw cc own nL n0 ns0 r) (hd : decode cc pc = .ok (.ishl, 1)) : zGd sz sv ev cl ar D p l e R s m args below meth c Q nL n0 ns0 r pc 1 (zBin zfShl) :=
  gBin X (g := fun x y => x <<< (y &&& 31)) (zi_shl) fun ls H locs cells slots st x y kk => lv_ishl X.1 X.2.1 hd kk

theorem gI_iushr (X : zCtx sz sv cl ar D p R s m args c gw cc own nL n0 ns0 r) (hd : decode cc pc = .ok (.iushr, 1)) : zGd sz sv ev cl ar D p l e R s m args below meth c Q nL n0 ns0 r pc 1 (zBin zfUshr) :=
  gBin X (g := fun x y => (x.toUInt32 >>> (y.toUInt32 &&& Int32.toUInt32 31)).toInt32) zi_ushr fun ls H locs cells slots st x y kk => lv_iushr X.1 X.2.1 hd rfl kk

theorem gI_goto (X : zCtx sz sv cl ar D p R s m args c gw cc own nL n0 ns0 r) {off : Int} {tg : Nat} (hd : decode cc pc = .ok (.goto off, 3)) (ht : (pc : Int) + off = (tg : Int)) : zGd sz sv ev cl ar D p l e R s m args below meth c Q nL n0 ns0 r pc 3 (zGoto tg) := by
  intro k j hk hj L st hp n ns hr
  obtain ⟨h1, h2, h3⟩ := hj tg L st hp n ns hr
  exact ⟨h1, h2, fun ls H locs a b d => lv_goto X.1 X.2.1 hd ht (h3 ls H locs a b d)⟩

theorem gI_iinc (hs : zSv sv) (X : zCtx sz sv cl ar D p R s m args c gw cc own nL n0 ns0 r) {i : Nat} {dd : Int} {d : Nat} (hd : decode cc pc = .ok (.iinc i dd, 3)) (he : Int32.ofInt dd = nI d) : zGd sz sv ev cl ar D p l e R s m args below meth c Q nL n0 ns0 r pc 3 (zIinc nL i d) := by
  intro k j hk hj L st hp n ns hr
  obtain ⟨hb, hr⟩ := zck_some hr
  obtain ⟨hz, hr⟩ := zck_some hr
  obtain ⟨hi, hr⟩ := zck_some hr
  obtain ⟨hn, hr⟩ := zck_some hr
  obtain ⟨h1, h2, h3⟩ := hk _ _ hp n ns hr
  have hb' : 1 ≤ zg L i := Nat.le_of_ble_eq_true hb
  have h0 : zg L i ≠ 0 := by omega
  refine ⟨h1, h2, fun ls H locs a b dd' => ?_⟩
  obtain ⟨kx, hkx⟩ := List.getElem?_of_mem (zmem_list a h0)
  have hv : (zvd sz sv ev (zg L i - 1)) = .int (nI ((zg L i - 1) / 8)) := zvd_0 (zt_eq hz)
  rw [hv] at hkx
  refine lv_iinc X.1 X.2.1 hd (zLR_has a) hkx (v := nI ((zg L i - 1) / 8 + d)) (by rw [he, nI_add]) (Nat.le_of_ble_eq_true hi) rfl fun ls' hl' => ?_
  refine h3 ls' H locs (zLR_st hs.cat a ?_ hn (by rw [zmk_v]; exact hl')) b dd'
  have : zmk ((Nat.pred (zg L i)).div 8 + d) < 8 * 4294967296 := by
    show 8 * (_ % 4294967296) < _
    have := Nat.mod_lt ((Nat.pred (zg L i)).div 8 + d) (show 0 < 4294967296 by decide)
    omega
  exact Nat.lt_of_le_of_lt this (by decide)

theorem gI_icmp_lt {iv : Nat → Nat × Nat} (hv : zIv ev iv) (X : zCtx sz sv cl ar D p R s m args c gw cc own nL n0 ns0 r) {off : Int} {tg : Nat} (hd : decode cc pc = .ok (.if_icmp .lt off, 3)) (ht : (pc : Int) + off = (tg : Int)) : zGd sz sv ev cl ar D p l e R s m args below meth c Q nL n0 ns0 r pc 3 (zJlt iv false false tg) := by
  intro k j hk hj L st hp n ns hr
  obtain ⟨y, t, rfl, q1⟩ := zpop_some hr
  clear hr
  obtain ⟨x, t, rfl, hr⟩ := zpop_some q1
  clear q1
  obtain ⟨U, V, b, e1, e2, hb, hr⟩ := zltb_some (sz := sz) (sv := sv) hv hr
  simp only [cond_true, cond_false] at e1 e2
  cases b
  · obtain ⟨h1, h2, h3⟩ := hk L _ hp n ns hr
    refine ⟨h1, h2, fun ls H locs a b d => ?_⟩
    have kk := h3 ls H locs a b d
    simp only [List.map_cons]
    rw [e1, e2]
    exact lv_icmp_lt X.1 X.2.1 hd ht (fun z => absurd z (fun z => nomatch hb.mpr z)) (fun _ => kk)
  · obtain ⟨h1, h2, h3⟩ := hj tg L _ hp n ns hr
    refine ⟨h1, h2, fun ls H locs a b d => ?_⟩
    have kk := h3 ls H locs a b d
    simp only [List.map_cons]
    rw [e1, e2]
    exact lv_icmp_lt X.1 X.2.1 hd ht (fun _ => kk) (fun z => absurd (hb.mp rfl) z)

theorem gI_icmp_ge {iv : Nat → Nat × Nat} (hv : zIv ev iv) (X : zCtx sz sv cl ar D p R s m args c gw cc own nL n0 ns0 r) {off : Int} {tg : Nat} (hd : decode cc pc = .ok (.if_icmp .ge off, 3)) (ht : (pc : Int) + off = (tg : Int)) : zGd sz sv ev cl ar D p l e R s m args below meth c Q nL n0 ns0 r pc 3 (zJlt iv false true tg) := by
  intro k j hk hj L st hp n ns hr
  obtain ⟨y, t, rfl, q1⟩ := zpop_some hr
  clear hr
  obtain ⟨x, t, rfl, hr⟩ := zpop_some q1
  clear q1
  obtain ⟨U, V, b, e1, e2, hb, hr⟩ := zltb_some (sz := sz) (sv := sv) hv hr
  simp only [cond_true, cond_false] at e1 e2
  cases b
  · obtain ⟨h1, h2, h3⟩ := hj tg L _ hp n ns hr
    refine ⟨h1, h2, fun ls H locs a b d => ?_⟩
    have kk := h3 ls H locs a b d
    simp only [List.map_cons]
    rw [e1, e2]
    exact lv_icmp_ge X.1 X.2.1 hd ht (fun _ => kk) (fun z => absurd (Int32.not_lt.mp fun z => nomatch hb.mpr z) z)
  · obtain ⟨h1, h2, h3⟩ := hk L _ hp n ns hr
    refine ⟨h1, h2, fun ls H locs a b d => ?_⟩
    have kk := h3 ls H locs a b d
    simp only [List.map_cons]
    rw [e1, e2]
    exact lv_icmp_ge X.1 X.2.1 hd ht (fun z => absurd z (Int32.not_le.mpr (hb.mp rfl))) (fun _ => kk)

theorem gI_icmp_gt {iv : Nat → Nat × Nat} (hv : zIv ev iv) (X : zCtx sz sv cl ar D p R s m args c gw cc own nL n0 ns0 r) {off : Int} {tg : Nat} (hd : decode cc pc = .ok (.if_icmp .gt off, 3)) (ht : (pc : Int) + off = (tg : Int)) : zGd sz sv ev cl ar D p l e R s m args below meth c Q nL n0 ns0 r pc 3 (zJlt iv true false tg) := by
  intro k j hk hj L st hp n ns hr
  obtain ⟨y, t, rfl, q1⟩ := zpop_some hr
  clear hr
  obtain ⟨x, t, rfl, hr⟩ := zpop_some q1
  clear q1
  obtain ⟨U, V, b, e1, e2, hb, hr⟩ := zltb_some (sz := sz) (sv := sv) hv hr
  simp only [cond_true, cond_false] at e1 e2
  cases b
  · obtain ⟨h1, h2, h3⟩ := hk L _ hp n ns hr
    refine ⟨h1, h2, fun ls H locs a b d => ?_⟩
    have kk := h3 ls H locs a b d
    simp only [List.map_cons]
    rw [e1, e2]
    exact lv_icmp_gt X.1 X.2.1 hd ht (fun z => absurd z (fun z => nomatch hb.mpr z)) (fun _ => kk)
  · obtain ⟨h1, h2, h3⟩ := hj tg L _ hp n ns hr
    refine ⟨h1, h2, fun ls H locs a b d => ?_⟩
    have kk := h3 ls H locs a b d
    simp only [List.map_cons]
    rw [e1, e2]
    exact lv_icmp_gt X.1 X.2.1 hd ht (fun _ => kk) (fun z => absurd (hb.mp rfl) z)

theorem gI_icmp_le {iv : Nat → Nat × Nat} (hv : zIv ev iv) (X : zCtx sz sv cl ar D p R s m args c gw cc own nL n0 ns0 r) {off : Int} {tg : Nat} (hd : decode cc pc = .ok (.if_icmp .le off, 3)) (ht : (pc : Int) + off = (tg : Int)) : zGd sz sv ev cl ar D p l e R s m args below meth c Q nL n0 ns0 r pc 3 (zJlt iv true true tg) := by
  intro k j hk hj L st hp n ns hr
  obtain ⟨y, t, rfl, q1⟩ := zpop_some hr
  clear hr
  obtain ⟨x, t, rfl, hr⟩ := zpop_some q1
  clear q1
  obtain ⟨U, V, b, e1, e2, hb, hr⟩ := zltb_some (sz := sz) (sv := sv) hv hr
  simp only [cond_true, cond_false] at e1 e2
  cases b
  · obtain ⟨h1, h2, h3⟩ := hj tg L _ hp n ns hr
    refine ⟨h1, h2, fun ls H locs a b d => ?_⟩
    have kk := h3 ls H locs a b d
    simp only [List.map_cons]
    rw [e1, e2]
    exact lv_icmp_le X.1 X.2.1 hd ht (fun _ => kk) (fun z => absurd (Int32.not_lt.mp fun z => nomatch hb.mpr z) z)
  · obtain ⟨h1, h2, h3⟩ := hk L _ hp n ns hr
    refine ⟨h1, h2, fun ls H locs a b d => ?_⟩
    have kk := h3 ls H locs a b d
    simp only [List.map_cons]
    rw [e1, e2]
    exact lv_icmp_le X.1 X.2.1 hd ht (fun z => absurd z (Int32.not_le.mpr (hb.mp rfl))) (fun _ => kk)

theorem gI_icmp_eq {iv : Nat → Nat × Nat} (hv : zIv ev iv) (X : zCtx sz sv cl ar D p R s m args c gw cc own nL n0 ns0 r) {off : Int} {tg : Nat} (hd : decode cc pc = .ok (.if_icmp .eq off, 3)) (ht : (pc : Int) + off = (tg : Int)) : zGd sz sv ev cl ar D p l e R s m args below meth c Q nL n0 ns0 r pc 3 (zJeq iv false tg) := by
  intro k j hk hj L st hp n ns hr
  obtain ⟨y, t, rfl, q1⟩ := zpop_some hr
  clear hr
  obtain ⟨x, t, rfl, hr⟩ := zpop_some q1
  clear q1
  obtain ⟨U, V, b, e1, e2, hb, hr⟩ := zeqb_some (sz := sz) (sv := sv) hv hr
  cases b
  · obtain ⟨h1, h2, h3⟩ := hk L _ hp n ns hr
    refine ⟨h1, h2, fun ls H locs a b d => ?_⟩
    have kk := h3 ls H locs a b d
    simp only [List.map_cons]
    rw [e1, e2]
    exact lv_icmp_eq X.1 X.2.1 hd ht (fun z => absurd z (fun z => nomatch hb.mpr z)) (fun _ => kk)
  · obtain ⟨h1, h2, h3⟩ := hj tg L _ hp n ns hr
    refine ⟨h1, h2, fun ls H locs a b d => ?_⟩
    have kk := h3 ls H locs a b d
    simp only [List.map_cons]
    rw [e1, e2]
    exact lv_icmp_eq X.1 X.2.1 hd ht (fun _ => kk) (fun z => absurd (hb.mp rfl) z)

theorem gI_icmp_ne {iv : Nat → Nat × Nat} (hv : zIv ev iv) (X : zCtx sz sv cl ar D p R s m args c gw cc own nL n0 ns0 r) {off : Int} {tg : Nat} (hd : decode cc pc = .ok (.if_icmp .ne off, 3)) (ht : (pc : Int) + off = (tg : Int)) : zGd sz sv ev cl ar D p l e R s m args below meth c Q nL n0 ns0 r pc 3 (zJeq iv true tg) := by
  intro k j hk hj L st hp n ns hr
  obtain ⟨y, t, rfl, q1⟩ := zpop_some hr
  clear hr
  obtain ⟨x, t, rfl, hr⟩ := zpop_some q1
  clear q1
  obtain ⟨U, V, b, e1, e2, hb, hr⟩ := zeqb_some (sz := sz) (sv := sv) hv hr
  cases b
  · obtain ⟨h1, h2, h3⟩ := hj tg L _ hp n ns hr
    refine ⟨h1, h2, fun ls H locs a b d => ?_⟩
    have kk := h3 ls H locs a b d
    simp only [List.map_cons]
    rw [e1, e2]
    exact lv_icmp_ne X.1 X.2.1 hd ht (fun _ => kk) (fun z => absurd z (fun z => (nomatch hb.mpr z)))
  · obtain ⟨h1, h2, h3⟩ := hk L _ hp n ns hr
    refine ⟨h1, h2, fun ls H locs a b d => ?_⟩
    have kk := h3 ls H locs a b d
    simp only [List.map_cons]
    rw [e1, e2]
    exact lv_icmp_ne X.1 X.2.1 hd ht (fun z => absurd (hb.mp rfl) z) (fun _ => kk)

theorem gI_if_lt {iv : Nat → Nat × Nat} (hv : zIv ev iv) (X : zCtx sz sv cl ar D p R s m args c gw cc own nL n0 ns0 r) {off : Int} {tg : Nat} (hd : decode cc pc = .ok (.ifCond .lt off, 3)) (ht : (pc : Int) + off = (tg : Int)) : zGd sz sv ev cl ar D p l e R s m args below meth c Q nL n0 ns0 r pc 3 (z0lt iv false false tg) := by
  intro k j hk hj L st hp n ns hr
  obtain ⟨x, t, rfl, q1⟩ := zpop_some hr
  clear hr
  obtain ⟨U, V, b, e1, e2, hb, hr⟩ := zltb_some (sz := sz) (sv := sv) hv q1
  simp only [cond_true, cond_false] at e1 e2
  cases b
  · obtain ⟨h1, h2, h3⟩ := hk L _ hp n ns hr
    refine ⟨h1, h2, fun ls H locs a b d => ?_⟩
    have kk := h3 ls H locs a b d
    simp only [List.map_cons]
    rw [e1]
    have hz := e2
    rw [zvd_0 (v := 0) rfl] at hz
    have hz0 := (Value.int.inj hz).symm
    subst hz0
    exact lv_if_lt X.1 X.2.1 hd ht (fun z => absurd z (fun z => nomatch hb.mpr z)) (fun _ => kk)
  · obtain ⟨h1, h2, h3⟩ := hj tg L _ hp n ns hr
    refine ⟨h1, h2, fun ls H locs a b d => ?_⟩
    have kk := h3 ls H locs a b d
    simp only [List.map_cons]
    rw [e1]
    have hz := e2
    rw [zvd_0 (v := 0) rfl] at hz
    have hz0 := (Value.int.inj hz).symm
    subst hz0
    exact lv_if_lt X.1 X.2.1 hd ht (fun _ => kk) (fun z => absurd (hb.mp rfl) z)

theorem gI_if_ge {iv : Nat → Nat × Nat} (hv : zIv ev iv) (X : zCtx sz sv cl ar D p R s m args c gw cc own nL n0 ns0 r) {off : Int} {tg : Nat} (hd : decode cc pc = .ok (.ifCond .ge off, 3)) (ht : (pc : Int) + off = (tg : Int)) : zGd sz sv ev cl ar D p l e R s m args below meth c Q nL n0 ns0 r pc 3 (z0lt iv false true tg) := by
  intro k j hk hj L st hp n ns hr
  obtain ⟨x, t, rfl, q1⟩ := zpop_some hr
  clear hr
  obtain ⟨U, V, b, e1, e2, hb, hr⟩ := zltb_some (sz := sz) (sv := sv) hv q1
  simp only [cond_true, cond_false] at e1 e2
  cases b
  · obtain ⟨h1, h2, h3⟩ := hj tg L _ hp n ns hr
    refine ⟨h1, h2, fun ls H locs a b d => ?_⟩
    have kk := h3 ls H locs a b d
    simp only [List.map_cons]
    rw [e1]
    have hz := e2
    rw [zvd_0 (v := 0) rfl] at hz
    have hz0 := (Value.int.inj hz).symm
    subst hz0
    exact lv_if_ge X.1 X.2.1 hd ht (fun _ => kk) (fun z => absurd (Int32.not_lt.mp fun z => nomatch hb.mpr z) z)
  · obtain ⟨h1, h2, h3⟩ := hk L _ hp n ns hr
    refine ⟨h1, h2, fun ls H locs a b d => ?_⟩
    have kk := h3 ls H locs a b d
    simp only [List.map_cons]
    rw [e1]
    have hz := e2
    rw [zvd_0 (v := 0) rfl] at hz
    have hz0 := (Value.int.inj hz).symm
    subst hz0
    exact lv_if_ge X.1 X.2.1 hd ht (fun z => absurd z (Int32.not_le.mpr (hb.mp rfl))) (fun _ => kk)

theorem gI_if_gt {iv : Nat → Nat × Nat} (hv : zIv ev iv) (X : zCtx sz sv cl ar D p R s m args c gw cc own nL n0 ns0 r) {off : Int} {tg : Nat} (hd : decode cc pc = .ok (.ifCond .gt off, 3)) (ht : (pc : Int) + off = (tg : Int)) : zGd sz sv ev cl ar D p l e R s m args below meth c Q nL n0 ns0 r pc 3 (z0lt iv true false tg) := by
  intro k j hk hj L st hp n ns hr
  obtain ⟨x, t, rfl, q1⟩ := zpop_some hr
  clear hr
  obtain ⟨U, V, b, e1, e2, hb, hr⟩ := zltb_some (sz := sz) (sv := sv) hv q1
  simp only [cond_true, cond_false] at e1 e2
  cases b
  · obtain ⟨h1, h2, h3⟩ := hk L _ hp n ns hr
    refine ⟨h1, h2, fun ls H locs a b d => ?_⟩
    have kk := h3 ls H locs a b d
    simp only [List.map_cons]
    rw [e2]
    have hz := e1
    rw [zvd_0 (v := 0) rfl] at hz
    have hz0 := (Value.int.inj hz).symm
    subst hz0
    exact lv_if_gt X.1 X.2.1 hd ht (fun z => absurd z (fun z => nomatch hb.mpr z)) (fun _ => kk)
  · obtain ⟨h1, h2, h3⟩ := hj tg L _ hp n ns hr
    refine ⟨h1, h2, fun ls H locs a b d => ?_⟩
    have kk := h3 ls H locs a b d
    simp only [List.map_cons]
    rw [e2]
    have hz := e1
    rw [zvd_0 (v := 0) rfl] at hz
    have hz0 := (Value.int.inj hz).symm
    subst hz0
    exact lv_if_gt X.1 X.2.1 hd ht (fun _ => kk) (fun z => absurd (hb.mp rfl) z)

theorem gI_if_le {iv : Nat → Nat × Nat} (hv : zIv ev iv) (X : zCtx sz sv cl ar D p R s m args c gw cc own nL n0 ns0 r) {off : Int} {tg : Nat} (hd : decode cc pc = .ok (.ifCond .le off, 3)) (ht : (pc : Int) + off = (tg : Int)) : zGd sz sv ev cl ar D p l e R s m args below meth c Q nL n0 ns0 r pc 3 (z0lt iv true true tg) := by
  intro k j hk hj L st hp n ns hr
  obtain ⟨x, t, rfl, q1⟩ := zpop_some hr
  clear hr
  obtain ⟨U, V, b, e1, e2, hb, hr⟩ := zltb_some (sz := sz) (sv := sv) hv q1
  simp only [cond_true, cond_false] at e1 e2
  cases b
  · obtain ⟨h1, h2, h3⟩ := hj tg L _ hp n ns hr
    refine ⟨h1, h2, fun ls H locs a b d => ?_⟩
    have kk := h3 ls H locs a b d
    simp only [List.map_cons]
    rw [e2]
    have hz := e1
    rw [zvd_0 (v := 0) rfl] at hz
    have hz0 := (Value.int.inj hz).symm
    subst hz0
    exact lv_if_le X.1 X.2.1 hd ht (fun _ => kk) (fun z => absurd (Int32.not_lt.mp fun z => nomatch hb.mpr z) z)
  · obtain ⟨h1, h2, h3⟩ := hk L _ hp n ns hr
    refine ⟨h1, h2, fun ls H locs a b d => ?_⟩
    have kk := h3 ls H locs a b d
    simp only [List.map_cons]
    rw [e2]
    have hz := e1
    rw [zvd_0 (v := 0) rfl] at hz
    have hz0 := (Value.int.inj hz).symm
    subst hz0
    exact lv_if_le X.1 X.2.1 hd ht (fun z => absurd z (Int32.not_le.mpr (hb.mp rfl))) (fun _ => kk)

theorem gI_if_eq {iv : Nat → Nat × Nat} (hv : zIv ev iv) (X : zCtx sz sv cl ar D p R s m args c gw cc own nL n0 ns0 r) {off : Int} {tg : Nat} (hd : decode cc pc = .ok (.ifCond .eq off, 3)) (ht : (pc : Int) + off = (tg : Int)) : zGd sz sv ev cl ar D p l e R s m args below meth c Q nL n0 ns0 r pc 3 (z0eq iv false tg) := by
  intro k j hk hj L st hp n ns hr
  obtain ⟨x, t, rfl, q1⟩ := zpop_some hr
  clear hr
  obtain ⟨U, V, b, e1, e2, hb, hr⟩ := zeqb_some (sz := sz) (sv := sv) hv q1
  cases b
  · obtain ⟨h1, h2, h3⟩ := hk L _ hp n ns hr
    refine ⟨h1, h2, fun ls H locs a b d => ?_⟩
    have kk := h3 ls H locs a b d
    simp only [List.map_cons]
    rw [e1]
    have hz := e2
    rw [zvd_0 (v := 0) rfl] at hz
    have hz0 := (Value.int.inj hz).symm
    subst hz0
    exact lv_if_eq X.1 X.2.1 hd ht (fun z => absurd z (fun z => nomatch hb.mpr z)) (fun _ => kk)
  · obtain ⟨h1, h2, h3⟩ := hj tg L _ hp n ns hr
    refine ⟨h1, h2, fun ls H locs a b d => ?_⟩
    have kk := h3 ls H locs a b d
    simp only [List.map_cons]
    rw [e1]
    have hz := e2
    rw [zvd_0 (v := 0) rfl] at hz
    have hz0 := (Value.int.inj hz).symm
    subst hz0
    exact lv_if_eq X.1 X.2.1 hd ht (fun _ => kk) (fun z => absurd (hb.mp rfl) z)

theorem gI_if_ne {iv : Nat → Nat × Nat} (hv : zIv ev iv) (X : zCtx sz sv cl ar D p R s m args c gw cc own nL n0 ns0 r) {off : Int} {tg : Nat} (hd : decode cc pc = .ok (.ifCond .ne off, 3)) (ht : (pc : Int) + off = (tg : Int)) : zGd sz sv ev cl ar D p l e R s m args below meth c Q nL n0 ns0 r pc 3 (z0eq iv true tg) := by
  intro k j hk hj L st hp n ns hr
  obtain ⟨x, t, rfl, q1⟩ := zpop_some hr
  clear hr
  obtain ⟨U, V, b, e1, e2, hb, hr⟩ := zeqb_some (sz := sz) (sv := sv) hv q1
  cases b
  · obtain ⟨h1, h2, h3⟩ := hj tg L _ hp n ns hr
    refine ⟨h1, h2, fun ls H locs a b d => ?_⟩
    have kk := h3 ls H locs a b d
    simp only [List.map_cons]
    rw [e1]
    have hz := e2
    rw [zvd_0 (v := 0) rfl] at hz
    have hz0 := (Value.int.inj hz).symm
    subst hz0
    exact lv_if_ne X.1 X.2.1 hd ht (fun _ => kk) (fun z => absurd z (fun z => (nomatch hb.mpr z)))
  · obtain ⟨h1, h2, h3⟩ := hk L _ hp n ns hr
    refine ⟨h1, h2, fun ls H locs a b d => ?_⟩
    have kk := h3 ls H locs a b d
    simp only [List.map_cons]
    rw [e1]
    have hz := e2
    rw [zvd_0 (v := 0) rfl] at hz
    have hz0 := (Value.int.inj hz).symm
    subst hz0
    exact lv_if_ne X.1 X.2.1 hd ht (fun z => absurd (hb.mp rfl) z) (fun _ => kk)

end ZB
