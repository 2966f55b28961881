section ZB
variable {sz : Nat} {sv : Nat → Value} {ev : Nat → Int32} {cl : List vw_C} {ar : zAr} {D : va_G}
variable {p : Program} {l : Launch} {e : Env} {R : Room} {s : State} {m : MethodId} {args : Array Value} {below : List Frame} {meth : Method} {c : Code} {Q : State → Prop}
variable {gw : List Cond} {cc : ByteArray} {own : String} {nL n0 ns0 : Nat} {r : zOut} {pc : Nat}

variable {G : State → Prop} {ex : Nat → String} {mt : zMt} {cal : zCal} {dd : Nat}
/-- the machine's call where the callee doesn't throw -/
def zRunsR (sz : Nat) (sv : Nat → Value) (ev : Nat → Int32) (cl : List vw_C) (ar : zAr) (D : va_G) (G : State → Prop) (ex : Nat → String) (p : Program) (l : Launch) (e : Env) (R : Room) (s : State) (m : MethodId) (args : Array Value) (below : List Frame) (meth : Method) (c : Code) (nL n0 ns0 : Nat) (gw : List Cond) (mt : zMt) (dd pc i : Nat) (as rest : List Nat) (hp : zHp) (n ns : Nat) : Prop :=
  ∀ (r' : zOut) (H : Heap) (locs : List Loc) (ls : Array Slot), ls.size = nL → zInv sz sv ev cl ar D s hp n H locs → zCon sz sv ev cl ar D G ex l gw mt dd i as hp n ns r' → (n - n0) + (r'.2.2.2.1 - n) ≤ R.cells → (ns - ns0) + (r'.2.2.2.2 - ns) ≤ R.slots → ((rest.map (zvd sz sv ev)).map fun v => v.category).sum ≤ 8 →
    r'.1 ≠ 2 → va_Run p l e R s m args below meth c H locs (n - n0) (ns - ns0) (r'.2.2.2.1 - n) (r'.2.2.2.2 - ns) (F0 m pc ls ((as.reverse ++ rest).map (zvd sz sv ev))) (rest.map (zvd sz sv ev)) (zQc sz sv ev cl ar D r' (as.map (zvd sz sv ev)).toArray) (zA sz)
def zRuns5 (sz : Nat) (sv : Nat → Value) (ev : Nat → Int32) (cl : List vw_C) (ar : zAr) (D : va_G) (G : State → Prop) (ex : Nat → String) (p : Program) (l : Launch) (e : Env) (R : Room) (s : State) (m : MethodId) (args : Array Value) (below : List Frame) (meth : Method) (c : Code) (nL n0 ns0 : Nat) (gw : List Cond) (mt : zMt) (dd pc i : Nat) (as rest : List Nat) (hp : zHp) (n ns : Nat) : Prop :=
  ∀ (r' : zOut) (H : Heap) (locs : List Loc) (ls : Array Slot), ls.size = nL → zInv sz sv ev cl ar D s hp n H locs → zCon sz sv ev cl ar D G ex l gw mt dd i as hp n ns r' → (n - n0) + (r'.2.2.2.1 - n) ≤ R.cells → (ns - ns0) + (r'.2.2.2.2 - ns) ≤ R.slots → ((rest.map (zvd sz sv ev)).map fun v => v.category).sum ≤ 8 →
    r'.1 ≠ 2 → va_Run5 p l e R s m args below meth c H locs (n - n0) (ns - ns0) (r'.2.2.2.1 - n) (r'.2.2.2.2 - ns) (F0 m pc ls ((as.reverse ++ rest).map (zvd sz sv ev))) (rest.map (zvd sz sv ev)) (zQc sz sv ev cl ar D r' (as.map (zvd sz sv ev)).toArray) (zA sz)
noncomputable def zCall0R (cal : zCal) (i : Nat) (as rest : List Nat) (k : zK) (L : Nat) (hp : zHp) (n ns : Nat) : zR := zbind (cal i as hp n ns) fun o => zout o (k L rest o.2.2.1 o.2.2.2.1 o.2.2.2.2) (k L (o.2.1 :: rest) o.2.2.1 o.2.2.2.1 o.2.2.2.2) none
noncomputable def zCallR (cal : zCal) (i na : Nat) : zI := fun k _ L st hp n ns => ztake na st [] fun as rest => zck (zfew rest) (zCall0R cal i as rest k L hp n ns)
noncomputable def zCallF (cal : zCal) (ci i na : Nat) : zI := fun k _ L st hp n ns => ztake na st [] fun as rest => zck (zfew rest) (zrcv ci [] as hp (zCall0R cal i as rest k L hp n ns))

noncomputable def zCallI (cal : zCal) (i na : Nat) : zI := fun k _ L st hp n ns => ztake na st [] fun as rest => zck (zfew rest) (zpop as fun b _ => zck (zt b 1) (zCall0R cal i as rest k L hp n ns))

theorem gCall0R (X : zCtx sz sv cl ar D p R s m args c gw cc own nL n0 ns0 r) (hC : zCok sz sv ev cl ar D G ex l gw mt dd cal) {i : Nat} {as rest : List Nat} {k : zK} {L : Nat} {hp : zHp} {n ns : Nat} (hrun : zRunsR sz sv ev cl ar D G ex p l e R s m args below meth c nL n0 ns0 gw mt dd pc i as rest hp n ns)
    (hk : zSnd sz sv ev cl ar D p l e R s m args below meth c Q nL n0 ns0 r (pc + 3) k) (hf : zfew rest = true) (hr : zCall0R cal i as rest k L hp n ns = some r) : n ≤ r.2.2.2.1 ∧ ns ≤ r.2.2.2.2 ∧ ∀ ls H locs, zLR sz sv ev nL L ls → zInv sz sv ev cl ar D s hp n H locs → ns0 ≤ ns → W p l e R s m args below meth c H locs (n - n0) (ns - ns0) Q (F0 m pc ls ((as.reverse ++ rest).map (zvd sz sv ev))) := by
  obtain ⟨o, ho, hr⟩ := zbind_some hr
  obtain ⟨c1, c2, hcon⟩ := hC i as hp n ns o ho
  have hRc := X.2.2.2.2.2.2.2.1
  have hRs := X.2.2.2.2.2.2.2.2.1
  have hs := X.2.2.2.2.2.2.1
  rcases zout_some hr with ⟨hk0, hr⟩ | ⟨hk1, hr⟩ | ⟨hk2, hr⟩
  · obtain ⟨h1, h2, h3⟩ := hk L rest _ _ _ hr
    refine ⟨by omega, by omega, fun ls H locs a b d => ?_⟩
    have hn0 : n0 ≤ n := by have g1 := b.2.2.2.1; have g2 := b.2.2.1; omega
    refine zcall_ret X c1 c2 d b rfl rfl (hrun o H locs ls a.1 b hcon (by omega) (by omega) (zfew_eq hf) (by omega)) fun H1 locs1 b1 => ?_
    rw [(zov_eq o).1 hk0]
    exact h3 ls H1 locs1 a b1 (by omega)
  · obtain ⟨h1, h2, h3⟩ := hk L (o.2.1 :: rest) _ _ _ hr
    refine ⟨by omega, by omega, fun ls H locs a b d => ?_⟩
    have hn0 : n0 ≤ n := by have g1 := b.2.2.2.1; have g2 := b.2.2.1; omega
    refine zcall_ret X c1 c2 d b rfl rfl (hrun o H locs ls a.1 b hcon (by omega) (by omega) (zfew_eq hf) (by omega)) fun H1 locs1 b1 => ?_
    rw [(zov_eq o).2 hk1]
    exact h3 ls H1 locs1 a b1 (by omega)
  · cases hr

theorem gCall05 (X : zCtx sz sv cl ar D p R s m args c gw cc own nL n0 ns0 r) (hC : zCok sz sv ev cl ar D G ex l gw mt dd cal) {i : Nat} {as rest : List Nat} {k : zK} {L : Nat} {hp : zHp} {n ns : Nat} (hrun : zRuns5 sz sv ev cl ar D G ex p l e R s m args below meth c nL n0 ns0 gw mt dd pc i as rest hp n ns)
    (hk : zSnd sz sv ev cl ar D p l e R s m args below meth c Q nL n0 ns0 r (pc + 5) k) (hf : zfew rest = true) (hr : zCall0R cal i as rest k L hp n ns = some r) : n ≤ r.2.2.2.1 ∧ ns ≤ r.2.2.2.2 ∧ ∀ ls H locs, zLR sz sv ev nL L ls → zInv sz sv ev cl ar D s hp n H locs → ns0 ≤ ns → W p l e R s m args below meth c H locs (n - n0) (ns - ns0) Q (F0 m pc ls ((as.reverse ++ rest).map (zvd sz sv ev))) := by
  obtain ⟨o, ho, hr⟩ := zbind_some hr
  obtain ⟨c1, c2, hcon⟩ := hC i as hp n ns o ho
  have hRc := X.2.2.2.2.2.2.2.1
  have hRs := X.2.2.2.2.2.2.2.2.1
  have hs := X.2.2.2.2.2.2.1
  rcases zout_some hr with ⟨hk0, hr⟩ | ⟨hk1, hr⟩ | ⟨hk2, hr⟩
  · obtain ⟨h1, h2, h3⟩ := hk L rest _ _ _ hr
    refine ⟨by omega, by omega, fun ls H locs a b d => ?_⟩
    have hn0 : n0 ≤ n := by have g1 := b.2.2.2.1; have g2 := b.2.2.1; omega
    refine zcall_ret5 X c1 c2 d b rfl rfl (hrun o H locs ls a.1 b hcon (by omega) (by omega) (zfew_eq hf) (by omega)) fun H1 locs1 b1 => ?_
    rw [(zov_eq o).1 hk0]
    exact h3 ls H1 locs1 a b1 (by omega)
  · obtain ⟨h1, h2, h3⟩ := hk L (o.2.1 :: rest) _ _ _ hr
    refine ⟨by omega, by omega, fun ls H locs a b d => ?_⟩
    have hn0 : n0 ≤ n := by have g1 := b.2.2.2.1; have g2 := b.2.2.1; omega
    refine zcall_ret5 X c1 c2 d b rfl rfl (hrun o H locs ls a.1 b hcon (by omega) (by omega) (zfew_eq hf) (by omega)) fun H1 locs1 b1 => ?_
    rw [(zov_eq o).2 hk1]
    exact h3 ls H1 locs1 a b1 (by omega)
  · cases hr

theorem gCallR (X : zCtx sz sv cl ar D p R s m args c gw cc own nL n0 ns0 r) (hC : zCok sz sv ev cl ar D G ex l gw mt dd cal) {i na : Nat} (hrun : ∀ as rest hp n ns, as.length = na → zRunsR sz sv ev cl ar D G ex p l e R s m args below meth c nL n0 ns0 gw mt dd pc i as rest hp n ns) : zGd sz sv ev cl ar D p l e R s m args below meth c Q nL n0 ns0 r pc 3 (zCallR cal i na) := by
  intro k j hk hj L st hp n ns hr
  obtain ⟨as, rest, rfl, hlen, hr⟩ := ztake_some hr
  rw [List.append_nil] at hr
  obtain ⟨hf, hr⟩ := zck_some hr
  exact gCall0R X hC (hrun as rest hp n ns hlen) hk hf hr

/-- a receiver that was there -/
def zSj (sz : Nat) (sv : Nat → Value) (s : State) (C : String) (j : Nat) : Prop := ∃ (a : Nat) (cell : Cell), sv j = .ref a ∧ a < sz ∧ s.heap[a]? = some cell ∧ cell.vm.isStatics = false ∧ s.vm.findClass C = some cell.cls
theorem zrcv_some {ci : Nat} {js as : List Nat} {hp : zHp} {k : zR} {o : zOut} (h : zrcv ci js as hp k = some o) : k = some o ∧ ∃ b t, as = b :: t ∧ ((b % 8 = 1 ∧ ∃ (i : Nat) (c : zC), hp[i]? = some c ∧ c.1 = b / 8 ∧ c.2.1 = ci) ∨ (b % 8 = 2 ∧ b / 8 ∈ js)) := by
  obtain ⟨b, t, rfl, g⟩ := zpop_some h
  clear h
  cases h1 : zt b 1 with
  | true =>
    simp only [h1, cond_true] at g
    obtain ⟨i, c, hi, hid, g2⟩ := zfind_some g
    obtain ⟨hk, h⟩ := zck_some g2
    exact ⟨h, b, t, rfl, Or.inl ⟨zt_eq h1, i, c, hi, hid, Nat.eq_of_beq_eq_true hk⟩⟩
  | false =>
    simp only [h1, cond_false] at g
    obtain ⟨h2, g2⟩ := zck_some g
    obtain ⟨h3, h⟩ := zck_some g2
    clear g g2
    refine ⟨h, b, t, rfl, Or.inr ⟨zt_eq h2, ?_⟩⟩
    clear h
    induction js with
    | nil => cases h3
    | cons j js ih =>
      have h3' : cond (Nat.beq j (Nat.div b 8)) true (List.rec (motive := fun _ => Bool) false (fun j _ ih => cond (Nat.beq j (Nat.div b 8)) true ih) js) = true := h3
      cases hb : Nat.beq j (Nat.div b 8) with
      | true =>
        have := Nat.eq_of_beq_eq_true hb
        exact List.mem_cons.mpr (Or.inl this.symm)
      | false =>
        rw [hb] at h3'
        exact List.mem_cons_of_mem _ (ih h3')
theorem zrcv_cell (X : zCtx sz sv cl ar D p R s m args c gw cc own nL n0 ns0 r) {ci : Nat} {js : List Nat} {C : String} {T : u_T} {N : Nat} (hc : cl[ci]? = some (C, T, N)) (hci : ci < 64) (hjs : ∀ j ∈ js, zSj sz sv s C j) {hp : zHp} {n b : Nat} {H : Heap} {locs : List Loc} (hb : zInv sz sv ev cl ar D s hp n H locs) (h : (b % 8 = 1 ∧ ∃ (i : Nat) (c : zC), hp[i]? = some c ∧ c.1 = b / 8 ∧ c.2.1 = ci) ∨ (b % 8 = 2 ∧ b / 8 ∈ js)) : ∃ a, zvd sz sv ev b = .ref a ∧ ∃ cell : Cell, H[a]? = some cell ∧ cell.vm.isStatics = false ∧ s.vm.findClass C = some cell.cls := by
  rcases h with ⟨h1, i, c0, hi, hid, hk⟩ | ⟨h2, hj⟩
  · refine ⟨_, zvd_1 h1, ?_⟩
    have he := zren_at (sz := sz) (sv := sv) (ev := ev) (cl := cl) (ar := ar) hi
    rw [zent_obj hk hci, hid] at he
    exact va_recv X.2.2.2.2.2.1 hb.1 hc he
  · obtain ⟨a, cell, e1, e2, e3, e4, e5⟩ := hjs _ hj
    have hs0 := X.2.2.2.2.2.2.1
    refine ⟨a, by rw [zvd_2 h2, e1], cell, ?_, e4, e5⟩
    rw [hb.2.2.2.2.1 a (by omega) (fun z => by have : sz ≤ a := z; omega)]; exact e3

theorem gI_invokevirtual (X : zCtx sz sv cl ar D p R s m args c gw cc own nL n0 ns0 r) (hC : zCok sz sv ev cl ar D G ex l gw mt dd cal) (hlk : meth.locks = false) (hx : zOwx sz sv ev cl ar D ex p l e R s m args below meth c Q n0 ns0 r) (hR : zRoom R (dd + 1)) (hG : zGm sz G) (hs : G s) (hgw : ∀ w ∈ gw, goodWord w = true) {index i : Nat} (hmL : (mt i).2.2.1 ≤ 45) {ci : Nat} {js : List Nat} {C : String} {T : u_T} {N : Nat} (hc : cl[ci]? = some (C, T, N)) (hci : ci < 64) (hjs : ∀ j ∈ js, zSj sz sv s C j) (hmem : ∀ w ∈ wsV own index C (mt i).1 (Cond.code (mt i).1 (mt i).2.1 (mt i).2.2.1 (mt i).2.2.2 :: gw), w ∈ gw) {na : Nat} (hd0 : (mt i).1.cls = C ∧ (mt i).1.cls ≠ "java/lang/invoke/MethodHandle" ∧ (mt i).1.cls ≠ "java/lang/invoke/VarHandle" ∧ (parseMethodDescriptor (mt i).1.desc).map (fun d => d.parameters.length) = some na) (hd : decode cc pc = .ok (.invokevirtual index, 3)) : zGd sz sv ev cl ar D p l e R s m args below meth c Q nL n0 ns0 r pc 3 (zCallV cal ci js i (na + 1)) := by
  intro k j hk hj L st hp n ns hr
  obtain ⟨as, rest, rfl, hlen, hr⟩ := ztake_some hr
  rw [List.append_nil] at hr
  obtain ⟨hf, hr⟩ := zck_some hr
  obtain ⟨hr, bb, t, rfl, hrc⟩ := zrcv_some hr
  refine gCall0 X hC hlk hx ?_ hk hf hr
  intro r' H locs ls hls b hcon hcc hss hrest
  have hroom : (zrm dd (r'.2.2.2.1 - n) (r'.2.2.2.2 - ns)).frames + 1 ≤ R.frames ∧ 8 + ((mt i).2.2.1 + 11) + (zrm dd (r'.2.2.2.1 - n) (r'.2.2.2.2 - ns)).locals ≤ R.locals := ⟨by have := hR.1; show dd + 10 + 1 ≤ _; omega, by have := hR.2; show 8 + ((mt i).2.2.1 + 11) + (64 * dd + 200) ≤ _; omega⟩
  have cw := cwV (R := R) (rm := zrm dd (r'.2.2.2.1 - n) (r'.2.2.2.2 - ns)) (C := C) na X.2.2.2.2.1 (zgood hgw hmem) rfl rfl rfl hd0 hroom
  obtain ⟨a, ha, hcell⟩ := zrcv_cell X hc hci hjs b hrc
  have hpre := zPre (avs := bb :: t) hG hs X.2.2.2.2.2.2.1 b
  rw [List.map_cons, ha] at hpre
  have hstk : ((bb :: t).reverse ++ rest).map (zvd sz sv ev) = (t.map (zvd sz sv ev)).reverse ++ .ref a :: rest.map (zvd sz sv ev) := by
    simp [ha]
  have hlen' : t.length = na := by simpa using hlen
  rw [hstk, List.map_cons, ha]
  constructor
  · intro h2
    have hM := hcon
    unfold zCon at hM
    rw [if_neg h2] at hM
    exact va_runV (zfix X) hM cw ⟨hpre.1, hcell, hpre.2⟩ rfl (by simp [hlen']) hls rfl (lv_room hrest) hd ⟨hcc, hss⟩
  · intro h2
    have hM := hcon
    unfold zCon at hM
    rw [if_pos h2] at hM
    exact vx_runV (zfix X) hM cw ⟨hpre.1, hcell, hpre.2⟩ rfl (by simp [hlen']) hls rfl (lv_room hrest) hd ⟨hcc, hss⟩


theorem gI_invokespecial (X : zCtx sz sv cl ar D p R s m args c gw cc own nL n0 ns0 r) (hC : zCok sz sv ev cl ar D G ex l gw mt dd cal) (hR : zRoom R (dd + 1)) (hG : zGm sz G) (hs : G s) (hgw : ∀ w ∈ gw, goodWord w = true) {index i : Nat} (hmL : (mt i).2.2.1 ≤ 45) {y : MethodName} {bytes : ByteArray} {maxL : Nat} (hmi : mt i = (y, bytes, maxL, none)) (hmem : ∀ w ∈ ([.methodLink own index y, .instanceMethod y, .initialized y.cls] : List Cond) ++ (Cond.code y bytes maxL none :: gw), w ∈ gw) (hini : y.name = "<init>") {na : Nat} (hd0 : y.cls ≠ "java/lang/invoke/MethodHandle" ∧ y.cls ≠ "java/lang/invoke/VarHandle" ∧ (parseMethodDescriptor y.desc).map (fun d => d.parameters.length) = some na) (hd : decode cc pc = .ok (.invokespecial index, 3)) : zGd sz sv ev cl ar D p l e R s m args below meth c Q nL n0 ns0 r pc 3 (zCallI cal i (na + 1)) := by
  intro k j hk hj L st hp n ns hr
  obtain ⟨as, rest, rfl, hlen, hr⟩ := ztake_some hr
  rw [List.append_nil] at hr
  obtain ⟨hf, hr⟩ := zck_some hr
  obtain ⟨bb, t, rfl, hr⟩ := zpop_some hr
  obtain ⟨hb1, hr⟩ := zck_some hr
  refine gCall0R X hC ?_ hk hf hr
  intro r' H locs ls hls b hcon hcc hss hrest h2
  have ok : ∀ w ∈ ([.methodLink own index y, .instanceMethod y, .initialized y.cls] : List Cond) ++ (Cond.code y bytes maxL none :: gw), w.before args s = true := fun w h => X.2.2.2.2.1 w (hmem w h)
  have hM := hcon
  unfold zCon at hM
  rw [if_neg h2, hmi] at hM
  rw [hmi] at hmL
  have hmL' : maxL ≤ 45 := hmL
  have cw := cwI (R := R) (rm := zrm dd (r'.2.2.2.1 - n) (r'.2.2.2.2 - ns)) (own := own) (index := index) (y := y) (bytes := bytes) (maxL := maxL) (ws := Cond.code y bytes maxL none :: gw) (Ts := gw) (mc := r'.2.2.2.1 - n) (ms := r'.2.2.2.2 - ns) na X.2.2.2.2.1 (zgood hgw (fun w h => hmem w (List.mem_append_right _ h))) rfl rfl rfl (ok _ (by simp)) (ok _ (by simp)) (ok _ (by simp)) hini hd0 ⟨by have := hR.1; show dd + 10 + 1 ≤ _; omega, by have := hR.2; show 8 + (maxL + 11) + (64 * dd + 200) ≤ _; omega⟩
  have ha : zvd sz sv ev bb = .ref (sz + bb / 8) := zvd_1 (zt_eq hb1)
  have hpre := zPre (avs := bb :: t) hG hs X.2.2.2.2.2.2.1 b
  rw [List.map_cons, ha] at hpre
  have hstk : ((bb :: t).reverse ++ rest).map (zvd sz sv ev) = (t.map (zvd sz sv ev)).reverse ++ .ref (sz + bb / 8) :: rest.map (zvd sz sv ev) := by
    simp [ha]
  have hlen' : t.length = na := by simpa using hlen
  rw [hstk, List.map_cons, ha]
  exact va_runI (zfix X) hM cw hpre rfl (by simp [hlen']) hls rfl (lv_room hrest) hd ⟨hcc, hss⟩
theorem gI_invokespecialN (X : zCtx sz sv cl ar D p R s m args c gw cc own nL n0 ns0 r) (hC : zCok sz sv ev cl ar D G ex l gw mt dd cal) (hR : zRoom R (dd + 1)) (hG : zGm sz G) (hs : G s) (hgw : ∀ w ∈ gw, goodWord w = true) {index i : Nat} (hmL : (mt i).2.2.1 ≤ 45) {y : MethodName} {bytes : ByteArray} {maxL : Nat} {host : String} (hmi : mt i = (y, bytes, maxL, none)) (hnest : va_Nw (.methodLinkNest own index y host) s) (hmem : ∀ w ∈ ([.instanceMethod y, .initialized y.cls] : List Cond) ++ (Cond.code y bytes maxL none :: gw), w ∈ gw) (hini : y.name = "<init>") {na : Nat} (hd0 : y.cls ≠ "java/lang/invoke/MethodHandle" ∧ y.cls ≠ "java/lang/invoke/VarHandle" ∧ (parseMethodDescriptor y.desc).map (fun d => d.parameters.length) = some na) (hd : decode cc pc = .ok (.invokespecial index, 3)) : zGd sz sv ev cl ar D p l e R s m args below meth c Q nL n0 ns0 r pc 3 (zCallI cal i (na + 1)) := by
  intro k j hk hj L st hp n ns hr
  obtain ⟨as, rest, rfl, hlen, hr⟩ := ztake_some hr
  rw [List.append_nil] at hr
  obtain ⟨hf, hr⟩ := zck_some hr
  obtain ⟨bb, t, rfl, hr⟩ := zpop_some hr
  obtain ⟨hb1, hr⟩ := zck_some hr
  refine gCall0R X hC ?_ hk hf hr
  intro r' H locs ls hls b hcon hcc hss hrest h2
  have ok : ∀ w ∈ ([.instanceMethod y, .initialized y.cls] : List Cond) ++ (Cond.code y bytes maxL none :: gw), w.before args s = true := fun w h => X.2.2.2.2.1 w (hmem w h)
  have hM := hcon
  unfold zCon at hM
  rw [if_neg h2, hmi] at hM
  rw [hmi] at hmL
  have hmL' : maxL ≤ 45 := hmL
  have cw := va_cnB (R := R) (args := args) (rm := zrm dd (r'.2.2.2.1 - n) (r'.2.2.2.2 - ns)) (own := own) (host := host) (index := index) (y := y) (bytes := bytes) (maxL := maxL) (ret := none) (ws := Cond.code y bytes maxL none :: gw) (Ts := gw) (mc := r'.2.2.2.1 - n) (ms := r'.2.2.2.2 - ns) na X.2.2.2.2.1 (zgood hgw (fun w h => hmem w (List.mem_append_right _ h))) rfl rfl rfl hnest (ok _ (by simp)) hd0 ⟨by have := hR.1; show dd + 10 + 1 ≤ _; omega, by have := hR.2; show 8 + (maxL + 11) + (64 * dd + 200) ≤ _; omega⟩
  have ha : zvd sz sv ev bb = .ref (sz + bb / 8) := zvd_1 (zt_eq hb1)
  have hpre := zPre (avs := bb :: t) hG hs X.2.2.2.2.2.2.1 b
  rw [List.map_cons, ha] at hpre
  have hstk : ((bb :: t).reverse ++ rest).map (zvd sz sv ev) = (t.map (zvd sz sv ev)).reverse ++ .ref (sz + bb / 8) :: rest.map (zvd sz sv ev) := by
    simp [ha]
  have hlen' : t.length = na := by simpa using hlen
  rw [hstk, List.map_cons, ha]
  exact va_runIN (zfix X) hM ⟨cw, hini, ok _ (by simp)⟩ hpre rfl (by simp [hlen']) hls rfl (lv_room hrest) hd ⟨hcc, hss⟩

theorem gI_invokeinterface (X : zCtx sz sv cl ar D p R s m args c gw cc own nL n0 ns0 r) (hC : zCok sz sv ev cl ar D G ex l gw mt dd cal) (hR : zRoom R (dd + 1)) (hG : zGm sz G) (hs : G s) (hgw : ∀ w ∈ gw, goodWord w = true) {index i : Nat} (hmL : (mt i).2.2.1 ≤ 45) {count ci : Nat} {C : String} {T : u_T} {N : Nat} {x : MethodName} (hc : cl[ci]? = some (C, T, N)) (hci : ci < 64) (hF : va_Fw C x (mt i).1 s) (hmem : ∀ w ∈ va_wsF own index C x (mt i).1 (Cond.code (mt i).1 (mt i).2.1 (mt i).2.2.1 (mt i).2.2.2 :: gw), w ∈ gw) {na : Nat} (hd0 : x.cls ≠ "java/lang/invoke/MethodHandle" ∧ x.cls ≠ "java/lang/invoke/VarHandle" ∧ (parseMethodDescriptor x.desc).map (fun d => d.parameters.length) = some na) (hd : decode cc pc = .ok (.invokeinterface index count, 5)) : zGd sz sv ev cl ar D p l e R s m args below meth c Q nL n0 ns0 r pc 5 (zCallF cal ci i (na + 1)) := by
  intro k j hk hj L st hp n ns hr
  obtain ⟨as, rest, rfl, hlen, hr⟩ := ztake_some hr
  rw [List.append_nil] at hr
  obtain ⟨hf, hr⟩ := zck_some hr
  obtain ⟨hr, bb, t, rfl, hrc⟩ := zrcv_some hr
  refine gCall05 X hC ?_ hk hf hr
  intro r' H locs ls hls b hcon hcc hss hrest h2
  have hroom : (zrm dd (r'.2.2.2.1 - n) (r'.2.2.2.2 - ns)).frames + 1 ≤ R.frames ∧ 8 + ((mt i).2.2.1 + 11) + (zrm dd (r'.2.2.2.1 - n) (r'.2.2.2.2 - ns)).locals ≤ R.locals := ⟨by have := hR.1; show dd + 10 + 1 ≤ _; omega, by have := hR.2; show 8 + ((mt i).2.2.1 + 11) + (64 * dd + 200) ≤ _; omega⟩
  have cw := va_cwF (R := R) (rm := zrm dd (r'.2.2.2.1 - n) (r'.2.2.2.2 - ns)) (C := C) na X.2.2.2.2.1 (zgood hgw hmem) rfl rfl rfl hF hd0 hroom
  obtain ⟨a, ha, hcell⟩ := zrcv_cell X hc hci (js := []) (fun _ h => nomatch h) b hrc
  have hpre := zPre (avs := bb :: t) hG hs X.2.2.2.2.2.2.1 b
  rw [List.map_cons, ha] at hpre
  have hstk : ((bb :: t).reverse ++ rest).map (zvd sz sv ev) = (t.map (zvd sz sv ev)).reverse ++ .ref a :: rest.map (zvd sz sv ev) := by
    simp [ha]
  have hlen' : t.length = na := by simpa using hlen
  rw [hstk, List.map_cons, ha]
  have hM := hcon
  unfold zCon at hM
  rw [if_neg h2] at hM
  exact va_runF (X.2.2.2.2.2.1.1 ci _ hc).2 (zfix X) hM cw ⟨hpre.1, hcell, hpre.2⟩ rfl (by simp [hlen']) hls rfl (lv_room hrest) hd ⟨hcc, hss⟩

noncomputable def zObj : zI := fun k _ L st hp n ns => zpop st fun a t => zck (zt a 1) (zck (zfew t) (k L t hp n ns))
theorem gI_objInit (X : zCtx sz sv cl ar D p R s m args c gw cc own nL n0 ns0 r) (hR : zRoom R dd) {index : Nat} (hlink : (Cond.methodLink own index Lib.objectInit).before args s = true) (hinst : (Cond.instanceMethod Lib.objectInit).before args s = true) (hcode : (Cond.code Lib.objectInit ⟨#[0xb1]⟩ 1 none).before args s = true) (hd : decode cc pc = .ok (.invokespecial index, 3)) : zGd sz sv ev cl ar D p l e R s m args below meth c Q nL n0 ns0 r pc 3 zObj := by
  intro k j hk hj L st hp n ns hr
  obtain ⟨x, t, rfl, q1⟩ := zpop_some hr
  clear hr
  obtain ⟨hx, hr⟩ := zck_some q1
  obtain ⟨hf, hr⟩ := zck_some hr
  obtain ⟨h1, h2, h3⟩ := hk L _ hp n ns hr
  refine ⟨h1, h2, fun ls H locs a b d => ?_⟩
  have kk := h3 ls H locs a b d
  simp only [List.map_cons] at kk ⊢
  rw [zvd_1 (zt_eq hx)]
  have hw := zfew_eq (sz := sz) (sv := sv) (ev := ev) hf
  refine W.objInit X.1 X.2.1 X.2.2.2.1 hlink hinst hcode rfl (by show ls.size = _; rw [a.1, X.2.2.1]) rfl hd (by have := hR.1; omega) ?_ kk
  have h0 := lv_room (m := m) (pc := pc) (ls := ls) (rest := .ref (sz + x / 8) :: t.map (zvd sz sv ev)) hw
  have := hR.2
  omega
theorem gI_throw (X : zCtx sz sv cl ar D p R s m args c gw cc own nL n0 ns0 r) (hR : zRoom R dd) (hlt : l.stackTraces = false) (hlk : meth.locks = false) (hx : zOwx sz sv ev cl ar D ex p l e R s m args below meth c Q n0 ns0 r) (hz : vx_Zq Bundle.tN "UNASSIGNED_STACK" Bundle.steD (zA sz) s s.heap ∧ vx_Zq Bundle.tN "SUPPRESSED_SENTINEL" Bundle.listD (zA sz) s s.heap) {cls : String} {names : List String} {ik ic ei : Nat} (he : ex ei = cls) (hcls : Bundle.fit cls = true) (hnames : ∀ n ∈ names, Bundle.fit n = true) (hnl : names.length ≤ 3)
    (hk : (Cond.classLink own ik cls).before args s = true) (hini : (Cond.initialized cls).before args s = true) (hat : ∀ w ∈ vx_at0 own ic cls names, w.before args s = true) (hgood : ∀ w ∈ Cond.classLink own ik cls :: Cond.initialized cls :: vx_at0 own ic cls names, vx_ot w = true)
    (d0 : decode cc pc = .ok (.new ik, 3)) (d3 : decode cc (pc + 3) = .ok (.dup, 1)) (d4 : decode cc (pc + 4) = .ok (.invokespecial ic, 3)) (d7 : decode cc (pc + 7) = .ok (.athrow, 1)) : zGd sz sv ev cl ar D p l e R s m args below meth c Q nL n0 ns0 r pc 8 (zThrow ei) := by
  intro k j hk' hj L st hp n ns hr
  obtain ⟨hf, hr⟩ := zck_some hr
  have e := Option.some.inj hr
  subst e
  refine ⟨Nat.le_succ n, Nat.le_add_right ns 6, fun ls H locs a b d => ?_⟩
  obtain ⟨hout, hQ⟩ := hx rfl
  rw [hQ]
  have hs := X.2.2.2.2.2.2.1
  have hn0 : n0 ≤ n := by have g1 := b.2.2.2.1; have g2 := b.2.2.1; omega
  have hRc := X.2.2.2.2.2.2.2.1
  have hRs := X.2.2.2.2.2.2.2.2.1
  have hw := zfew_eq (sz := sz) (sv := sv) (ev := ev) hf
  have hRc' : Nat.succ n - n0 ≤ R.cells := hRc
  have hRs' : ns + 6 - ns0 ≤ R.slots := hRs
  refine zz_throw0 X.1 X.2.1 hlt X.2.2.2.1 hcls hnames hk hini hat hgood hz.1 hz.2 b.2.2.2 (by rw [a.1, X.2.2.1]) d0 d3 d4 d7 (fun x hx => (hout x hx).elim) (by have := hR.1; omega) (by have := hR.2; omega) (by omega) (by omega) hlk ?_ (fun z hz => b.2.2.2.2.2 z hz) (by show n - n0 + 1 ≤ Nat.succ n - n0; omega) (by show ns - ns0 + 6 ≤ ns + 6 - ns0; omega)
  intro t _ hsz hkeep
  have hkp : ∀ (k : Nat) (x : Nat × va_E), (zren sz sv ev cl ar hp)[k]? = some x → t.heap[x.1]? = H[x.1]? := fun k x hx => hkeep x.1 ((b.1 k x hx).lt)
  refine ⟨he.symm, b.1.kept hkp, zwf_le (Nat.le_succ n) b.2.1, ?_, fun q hq => ?_⟩
  · rw [hsz, b.2.2.1]; rfl
  · rw [hkeep q (by have := b.2.2.1; omega)]
    exact b.2.2.2.2.1 q (by omega) (fun z => by have : sz ≤ q := z; omega)

end ZB