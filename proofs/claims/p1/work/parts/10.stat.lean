/-! what was there before the run: fields and rows of it, by its numbers -/
def zSF (sz : Nat) (sv : Nat → Value) (ev : Nat → Int32) (s : State) (C n d : String) (j v : Nat) : Prop :=
  ∃ (cf : ClassId) (kf : Class) (fi : Nat) (f : Field) (a : Nat) (cell : Cell), s.fieldFound? C n d = some (cf, kf, fi, f) ∧ f.isStatic = false ∧ sv j = .ref a ∧ a < sz ∧ s.heap[a]? = some cell ∧ cell.vm ≠ .unknown ∧ cell.slots[f.slot]? = some (zvd sz sv ev v)
def zSR (sz : Nat) (sv : Nat → Value) (ev : Nat → Int32) (s : State) (ty : FieldType) (j len N : Nat) : Prop :=
  ∃ (a : Nat) (cell : Cell), sv j = .ref a ∧ a < sz ∧ s.heap[a]? = some cell ∧ s.isArrayOf cell ty ∧ cell.vm ≠ .unknown ∧ cell.slots.size = len ∧ len < 2 ^ 31 ∧ ∀ i, i < len → cell.slots[i]? = some (zvd sz sv ev (zg N i))
noncomputable def zasc (j : Nat) (tb : List (Nat × Nat)) (k : Nat → zR) : zR := List.rec (motive := fun _ => zR) none (fun q _ ih => cond (Nat.beq q.1 j) (k q.2) ih) tb
theorem zasc_some {j : Nat} {k : Nat → zR} {o : zOut} : ∀ {tb : List (Nat × Nat)}, zasc j tb k = some o → ∃ q ∈ tb, q.1 = j ∧ k q.2 = some o
  | [], h => nomatch h
  | q :: t, h => by
    have h' : cond (Nat.beq q.1 j) (k q.2) (zasc j t k) = some o := h
    cases hb : Nat.beq q.1 j with
    | true => rw [hb] at h'; exact ⟨q, List.mem_cons_self, Nat.eq_of_beq_eq_true hb, h'⟩
    | false =>
      rw [hb] at h'
      obtain ⟨q', h1, h2⟩ := zasc_some h'
      exact ⟨q', List.mem_cons_of_mem _ h1, h2⟩
noncomputable def zas2 (j : Nat) (tb : List (Nat × Nat × Nat)) (k : Nat → Nat → zR) : zR := List.rec (motive := fun _ => zR) none (fun q _ ih => cond (Nat.beq q.1 j) (k q.2.1 q.2.2) ih) tb
theorem zas2_some {j : Nat} {k : Nat → Nat → zR} {o : zOut} : ∀ {tb : List (Nat × Nat × Nat)}, zas2 j tb k = some o → ∃ q ∈ tb, q.1 = j ∧ k q.2.1 q.2.2 = some o
  | [], h => nomatch h
  | q :: t, h => by
    have h' : cond (Nat.beq q.1 j) (k q.2.1 q.2.2) (zas2 j t k) = some o := h
    cases hb : Nat.beq q.1 j with
    | true => rw [hb] at h'; exact ⟨q, List.mem_cons_self, Nat.eq_of_beq_eq_true hb, h'⟩
    | false =>
      rw [hb] at h'
      obtain ⟨q', h1, h2⟩ := zas2_some h'
      exact ⟨q', List.mem_cons_of_mem _ h1, h2⟩
/-- a field of what was there -/
noncomputable def zGetS (tb : List (Nat × Nat)) : zI := fun k _ L st hp n ns => zpop st fun a t => zck (zt a 2) (zasc (Nat.div a 8) tb fun v => k L (v :: t) hp n ns)
/-- a place of a row that was there -/
noncomputable def zAldS (tb : List (Nat × Nat × Nat)) : zI := fun k _ L st hp n ns => zpop st fun i t => zpop t fun a t => zck (zt i 0) (zck (Nat.blt i 17179869184) (zck (zt a 2) (zas2 (Nat.div a 8) tb fun len N => zck (Nat.blt (Nat.div i 8) len) (k L (zg N (Nat.div i 8) :: t) hp n ns))))
/-- a row's length, also of one that was there -/
noncomputable def zAlenS (tb : List (Nat × Nat)) : zI := fun k j L st hp n ns => zpop st fun a t => cond (zt a 2) (zasc (Nat.div a 8) tb fun v => k L (Nat.mul 8 v :: t) hp n ns) (zAlen k j L (a :: t) hp n ns)
/-- the same thing that was there -/
noncomputable def zAcmp (neg : Bool) (tg : Nat) : zI := fun k j L st hp n ns => zpop st fun y t => zpop t fun x t => zck (zisA x) (zck (zisA y) (zck (Nat.beq x y) (cond neg (k L t hp n ns) (j tg L t hp n ns))))
noncomputable def zNewO : zI := fun k _ L st hp n ns => zpop st fun x t => zck (zt x 0) (zck (Nat.blt x 240000000) (k L (Nat.add (Nat.mul 8 n) 1 :: t) ((n, 68, Nat.div x 8, 0) :: hp) (Nat.succ n) (Nat.add ns (Nat.div x 8))))
/-- a copy of a row of ints -/
noncomputable def zClone : zI := fun k _ L st hp n ns => zpop st fun a t => zck (zt a 1) (zfind (Nat.div a 8) hp fun c => zck (Nat.beq c.2.1 64) (zck (Nat.blt (List.length t) 5) (k L (Nat.add (Nat.mul 8 n) 1 :: t) ((n, 64, c.2.2.1, c.2.2.2) :: hp) (Nat.succ n) (Nat.add ns c.2.2.1))))

section ZB
variable {sz : Nat} {sv : Nat → Value} {ev : Nat → Int32} {cl : List vw_C} {ar : zAr} {D : va_G}
variable {p : Program} {l : Launch} {e : Env} {R : Room} {s : State} {m : MethodId} {args : Array Value} {below : List Frame} {meth : Method} {c : Code} {Q : State → Prop}
variable {gw : List Cond} {cc : ByteArray} {own : String} {nL n0 ns0 : Nat} {r : zOut} {pc : Nat}

theorem gI_arraylength (X : zCtx sz sv cl ar D p R s m args c gw cc own nL n0 ns0 r) (hd : decode cc pc = .ok (.arraylength, 1)) : zGd sz sv ev cl ar D p l e R s m args below meth c Q nL n0 ns0 r pc 1 zAlen := by
  intro k j hk hj L st hp n ns hr
  obtain ⟨x, t, rfl, q1⟩ := zpop_some hr
  clear hr
  obtain ⟨hx, hr⟩ := zck_some q1
  obtain ⟨w, c0, hw, hid, hr⟩ := zfind_some hr
  obtain ⟨hlo, hr⟩ := zck_some hr
  obtain ⟨hhi, hr⟩ := zck_some hr
  obtain ⟨h1, h2, h3⟩ := hk L _ hp n ns hr
  refine ⟨h1, h2, fun ls H locs a b d => ?_⟩
  have kk := h3 ls H locs a b d
  simp only [List.map_cons] at kk ⊢
  rw [zaddr (hp := hp) (i := w) hid (zt_eq hx)]
  have hlo' : 63 + 1 ≤ c0.2.1 := Nat.le_of_ble_eq_true hlo
  have hhi' : c0.2.1 + 1 ≤ 69 := Nat.le_of_ble_eq_true hhi
  have e0 : (Nat.mul 8 c0.2.2.1) % 8 = 0 := by show (8 * c0.2.2.1) % 8 = 0; omega
  have e8 : (Nat.mul 8 c0.2.2.1) / 8 = c0.2.2.1 := by show (8 * c0.2.2.1) / 8 = _; omega
  rw [zvd_0 e0, e8] at kk
  have he := zren_at (sz := sz) (sv := sv) (ev := ev) (cl := cl) (ar := ar) hw
  have hK := X.2.2.2.2.2.1
  unfold zent at he
  by_cases k0 : c0.2.1 = 64
  · rw [if_pos k0] at he
    exact va_alen X.1 X.2.1 hK b.1 w 0 he rfl rfl hd kk
  rw [if_neg k0] at he
  by_cases k1 : c0.2.1 = 65
  · rw [if_pos k1] at he
    exact va_alen X.1 X.2.1 hK b.1 w 1 he rfl rfl hd kk
  rw [if_neg k1] at he
  by_cases k2 : c0.2.1 = 66
  · rw [if_pos k2] at he
    exact va_alen X.1 X.2.1 hK b.1 w 2 he rfl rfl hd kk
  rw [if_neg k2] at he
  by_cases k3 : c0.2.1 = 67
  · rw [if_pos k3] at he
    exact va_alen X.1 X.2.1 hK b.1 w 3 he rfl rfl hd kk
  rw [if_neg k3] at he
  have k4 : c0.2.1 = 68 := by omega
  rw [if_pos k4] at he
  exact va_alen X.1 X.2.1 hK b.1 w 4 he rfl rfl hd kk

theorem gI_arraylengthS (X : zCtx sz sv cl ar D p R s m args c gw cc own nL n0 ns0 r) {tb : List (Nat × Nat)} (htb : ∀ q ∈ tb, ∃ ty N, zSR sz sv ev s ty q.1 q.2 N) (hs0 : s.heap.size = sz + n0) (hd : decode cc pc = .ok (.arraylength, 1)) : zGd sz sv ev cl ar D p l e R s m args below meth c Q nL n0 ns0 r pc 1 (zAlenS tb) := by
  intro k j hk hj L st hp n ns hr
  obtain ⟨x, t, rfl, q1⟩ := zpop_some hr
  clear hr
  cases hx : zt x 2 with
  | false =>
    simp only [hx, cond_false] at q1
    exact gI_arraylength X hd k j hk hj L (x :: t) hp n ns q1
  | true =>
    simp only [hx, cond_true] at q1
    obtain ⟨q, hq, hqj, hr⟩ := zasc_some q1
    obtain ⟨h1, h2, h3⟩ := hk L _ hp n ns hr
    refine ⟨h1, h2, fun ls H locs a b d => ?_⟩
    have kk := h3 ls H locs a b d
    simp only [List.map_cons] at kk ⊢
    obtain ⟨ty, N, ad, cell, g1, g2, g3, g4, g5, g6, -⟩ := htb q hq
    rw [zvd_2 (zt_eq hx), show x / 8 = q.1 from hqj.symm, g1]
    have e0 : (Nat.mul 8 q.2) % 8 = 0 := by show (8 * q.2) % 8 = 0; omega
    have e8 : (Nat.mul 8 q.2) / 8 = q.2 := by show (8 * q.2) / 8 = _; omega
    rw [zvd_0 e0, e8] at kk
    exact W.alen (n := nI q.2) X.1 X.2.1 (by rw [b.2.2.2.2.1 ad (by omega) (fun z => by have : sz ≤ ad := z; omega)]; exact g3) g4 (by rw [g6] <;> rfl) rfl rfl hd kk

theorem gI_getfieldS (X : zCtx sz sv cl ar D p R s m args c gw cc own nL n0 ns0 r) {tb : List (Nat × Nat)} {C nm de ref : String} {index : Nat} (htb : ∀ q ∈ tb, zSF sz sv ev s C nm de q.1 q.2) (hlink : (Cond.fieldLink own index ref nm de).before args s = true) (hsame : ∀ x, s.fieldFound? C nm de = some x → s.fieldFound? ref nm de = some x) (hd : decode cc pc = .ok (.getfield index, 3)) : zGd sz sv ev cl ar D p l e R s m args below meth c Q nL n0 ns0 r pc 3 (zGetS tb) := by
  intro k j hk hj L st hp n ns hr
  obtain ⟨x, t, rfl, q1⟩ := zpop_some hr
  clear hr
  obtain ⟨hx, hr⟩ := zck_some q1
  obtain ⟨q, hq, hqj, hr⟩ := zasc_some hr
  obtain ⟨h1, h2, h3⟩ := hk L _ hp n ns hr
  refine ⟨h1, h2, fun ls H locs a b d => ?_⟩
  have kk := h3 ls H locs a b d
  simp only [List.map_cons] at kk ⊢
  obtain ⟨cf, kf, fi, f, ad, cell, f1, f2, g1, g2, g3, g5, g6⟩ := htb q hq
  have hs0 := X.2.2.2.2.2.2.1
  rw [zvd_2 (zt_eq hx), show x / 8 = q.1 from hqj.symm, g1]
  exact W.getf X.1 X.2.1 X.2.2.2.1 hlink (hsame _ f1) f2 (by rw [b.2.2.2.2.1 ad (by omega) (fun z => by have : sz ≤ ad := z; omega)]; exact g3) g5 g6 rfl rfl hd kk

theorem gI_ialoadS (X : zCtx sz sv cl ar D p R s m args c gw cc own nL n0 ns0 r) {tb : List (Nat × Nat × Nat)} (htb : ∀ q ∈ tb, zSR sz sv ev s .int q.1 q.2.1 q.2.2) (hd : decode cc pc = .ok (.iaload, 1)) : zGd sz sv ev cl ar D p l e R s m args below meth c Q nL n0 ns0 r pc 1 (zAldS tb) := by
  intro k j hk hj L st hp n ns hr
  obtain ⟨i, t, rfl, q1⟩ := zpop_some hr
  clear hr
  obtain ⟨x, t, rfl, hr⟩ := zpop_some q1
  clear q1
  obtain ⟨hi0, hr⟩ := zck_some hr
  obtain ⟨hi31, hr⟩ := zck_some hr
  obtain ⟨hx, hr⟩ := zck_some hr
  obtain ⟨q, hq, hqj, hr⟩ := zas2_some hr
  obtain ⟨hlt, hr⟩ := zck_some hr
  obtain ⟨h1, h2, h3⟩ := hk L _ hp n ns hr
  refine ⟨h1, h2, fun ls H locs a b d => ?_⟩
  have kk := h3 ls H locs a b d
  simp only [List.map_cons] at kk ⊢
  obtain ⟨ad, cell, g1, g2, g3, g4, g5, g6, g7, g8⟩ := htb q hq
  have hs0 := X.2.2.2.2.2.2.1
  have hlt' : i / 8 < q.2.1 := Nat.lt_of_succ_le (Nat.le_of_ble_eq_true hlt)
  rw [zvd_2 (zt_eq hx), show x / 8 = q.1 from hqj.symm, g1, zvd_0 (zt_eq hi0)]
  refine W.iald (v := zvd sz sv ev (zg q.2.2 (i / 8))) X.1 X.2.1 (by rw [b.2.2.2.2.1 ad (by omega) (fun z => by have : sz ≤ ad := z; omega)]; exact g3) g4 g5 ?_ ?_ rfl rfl hd kk
  · rw [g6]; exact zin hlt' (zi31 hi31)
  · rw [nI_clamp (zi31 hi31)]; exact g8 _ hlt'

theorem gI_baloadS (X : zCtx sz sv cl ar D p R s m args c gw cc own nL n0 ns0 r) {tb : List (Nat × Nat × Nat)} (htb : ∀ q ∈ tb, zSR sz sv ev s .byte q.1 q.2.1 q.2.2) (hd : decode cc pc = .ok (.baload, 1)) : zGd sz sv ev cl ar D p l e R s m args below meth c Q nL n0 ns0 r pc 1 (zAldS tb) := by
  intro k j hk hj L st hp n ns hr
  obtain ⟨i, t, rfl, q1⟩ := zpop_some hr
  clear hr
  obtain ⟨x, t, rfl, hr⟩ := zpop_some q1
  clear q1
  obtain ⟨hi0, hr⟩ := zck_some hr
  obtain ⟨hi31, hr⟩ := zck_some hr
  obtain ⟨hx, hr⟩ := zck_some hr
  obtain ⟨q, hq, hqj, hr⟩ := zas2_some hr
  obtain ⟨hlt, hr⟩ := zck_some hr
  obtain ⟨h1, h2, h3⟩ := hk L _ hp n ns hr
  refine ⟨h1, h2, fun ls H locs a b d => ?_⟩
  have kk := h3 ls H locs a b d
  simp only [List.map_cons] at kk ⊢
  obtain ⟨ad, cell, g1, g2, g3, g4, g5, g6, g7, g8⟩ := htb q hq
  have hs0 := X.2.2.2.2.2.2.1
  have hlt' : i / 8 < q.2.1 := Nat.lt_of_succ_le (Nat.le_of_ble_eq_true hlt)
  rw [zvd_2 (zt_eq hx), show x / 8 = q.1 from hqj.symm, g1, zvd_0 (zt_eq hi0)]
  refine W.bald (v := zvd sz sv ev (zg q.2.2 (i / 8))) X.1 X.2.1 (by rw [b.2.2.2.2.1 ad (by omega) (fun z => by have : sz ≤ ad := z; omega)]; exact g3) g4 g5 ?_ ?_ rfl rfl hd kk
  · rw [g6]; exact zin hlt' (zi31 hi31)
  · rw [nI_clamp (zi31 hi31)]; exact g8 _ hlt'

theorem gI_acmp_eq (hs : zSv sv) (X : zCtx sz sv cl ar D p R s m args c gw cc own nL n0 ns0 r) {off : Int} {tg : Nat} (hd : decode cc pc = .ok (.if_acmp .eq off, 3)) (ht : (pc : Int) + off = (tg : Int)) : zGd sz sv ev cl ar D p l e R s m args below meth c Q nL n0 ns0 r pc 3 (zAcmp false tg) := by
  intro k j hk hj L st hp n ns hr
  obtain ⟨y, t, rfl, q1⟩ := zpop_some hr
  clear hr
  obtain ⟨x, t, rfl, hr⟩ := zpop_some q1
  clear q1
  obtain ⟨hx, hr⟩ := zck_some hr
  obtain ⟨hy, hr⟩ := zck_some hr
  obtain ⟨hxy, hfin⟩ := zck_some hr
  clear hr
  have hE := Nat.eq_of_beq_eq_true hxy
  subst hE
  obtain ⟨h1, h2, h3⟩ := hj tg L _ hp n ns hfin
  refine ⟨h1, h2, fun ls H locs a b d => ?_⟩
  have kk := h3 ls H locs a b d
  simp only [List.map_cons]
  have hrf := zgr_eq (sz := sz) (ev := ev) hs hx
  rw [hrf]
  exact lv_acmp_eq X.1 X.2.1 hd ht (fun _ => kk) (fun z => absurd rfl z)

theorem gI_acmp_ne (hs : zSv sv) (X : zCtx sz sv cl ar D p R s m args c gw cc own nL n0 ns0 r) {off : Int} {tg : Nat} (hd : decode cc pc = .ok (.if_acmp .ne off, 3)) (ht : (pc : Int) + off = (tg : Int)) : zGd sz sv ev cl ar D p l e R s m args below meth c Q nL n0 ns0 r pc 3 (zAcmp true tg) := by
  intro k j hk hj L st hp n ns hr
  obtain ⟨y, t, rfl, q1⟩ := zpop_some hr
  clear hr
  obtain ⟨x, t, rfl, hr⟩ := zpop_some q1
  clear q1
  obtain ⟨hx, hr⟩ := zck_some hr
  obtain ⟨hy, hr⟩ := zck_some hr
  obtain ⟨hxy, hfin⟩ := zck_some hr
  clear hr
  have hE := Nat.eq_of_beq_eq_true hxy
  subst hE
  obtain ⟨h1, h2, h3⟩ := hk L _ hp n ns hfin
  refine ⟨h1, h2, fun ls H locs a b d => ?_⟩
  have kk := h3 ls H locs a b d
  simp only [List.map_cons]
  have hrf := zgr_eq (sz := sz) (ev := ev) hs hx
  rw [hrf]
  exact lv_acmp_ne X.1 X.2.1 hd ht (fun z => absurd rfl z) (fun _ => kk)

theorem gI_new (X : zCtx sz sv cl ar D p R s m args c gw cc own nL n0 ns0 r) {C : String} {T : u_T} {N ci index df : Nat} (hlay : ∀ w ∈ u_ws C T N, w.before args s = true) (hc : cl[ci]? = some (C, T, N)) (hci : ci < 64) (ty0 : Nat → FieldType) (hty : ∀ k, k < N → parseFieldDescriptor (T k).2.2.1 = some (ty0 k)) (hdf : ∀ k, k < N → zg df k = zdv (ty0 k)) (hcl : (Cond.classLink own index C).before args s = true) (hinst : (Cond.instantiable C N).before args s = true) (hini : (Cond.initialized C).before args s = true) (hd : decode cc pc = .ok (.new index, 3)) : zGd sz sv ev cl ar D p l e R s m args below meth c Q nL n0 ns0 r pc 3 (zNew ci N df) := by
  intro k j hk hj L st hp n ns hr
  obtain ⟨h1, h2, h3⟩ := hk L _ _ _ _ hr
  have h1' : n + 1 ≤ r.2.2.2.1 := h1
  have h2' : ns + N ≤ r.2.2.2.2 := h2
  refine ⟨by omega, by omega, fun ls H locs a b d => ?_⟩
  have hK := X.2.2.2.2.2.1
  have hn0 : n0 ≤ n := by have g1 := b.2.2.2.1; have g2 := b.2.2.1; have g3 := X.2.2.2.2.2.2.1; omega
  have hRc := X.2.2.2.2.2.2.2.1
  have hRs := X.2.2.2.2.2.2.2.2.1
  refine W.newc X.1 X.2.1 X.2.2.2.1 hcl hinst hini rfl hd (by omega) (by omega) fun cC kC e1 e2 e3 e4 => ?_
  have hKn := hK.1 ci _ hc
  cases hKn.2.1.symm.trans e1
  have kk := h3 ls (H.push { cls := D.1 ci, slots := kC.instanceTypes.map defaultValue, vm := .none }) locs a ?_ (by show ns0 ≤ ns + N; omega)
  · simp only [List.map_cons] at kk
    have e0 : (Nat.add (Nat.mul 8 n) 1) % 8 = 1 := by show (8 * n + 1) % 8 = 1; omega
    have e8 : (Nat.add (Nat.mul 8 n) 1) / 8 = n := by show (8 * n + 1) / 8 = n; omega
    rw [zvd_1 e0, e8, ← b.2.2.1] at kk
    have c1 : n - n0 + 1 = Nat.succ n - n0 := by omega
    have c2 : ns - ns0 + N = Nat.add ns N - ns0 := by show ns - ns0 + N = ns + N - ns0; omega
    rw [c1, c2]
    exact kk
  · refine zInv_push b rfl ?_ (Array.size_push ..) (fun q hq => by rw [Array.getElem?_push, if_neg (Nat.ne_of_lt hq)])
    rw [zent_obj rfl hci, znf_eq hc, ← b.2.2.1]
    have hcell : (H.push { cls := D.1 ci, slots := kC.instanceTypes.map defaultValue, vm := .none })[H.size]? = some (blank (D.1 ci) kC) := by rw [Array.getElem?_push_size]; rfl
    refine ⟨_, hc, (u_born ty0 hlay (fun _ h => h) hKn e2 hcell hty).to (fun j hj => ?_)⟩
    unfold vp_V
    rw [List.getD_eq_getElem?_getD, List.getElem?_map, List.getElem?_range hj]
    show _ = zvd sz sv ev (zg df j)
    rw [hdf j hj, zdv_eq]

theorem gI_newarray_int (X : zCtx sz sv cl ar D p R s m args c gw cc own nL n0 ns0 r) (harr : (Cond.arrayClass (newarray.typeOf .int)).before args s = true) (hd : decode cc pc = .ok (.newarray .int, 2)) : zGd sz sv ev cl ar D p l e R s m args below meth c Q nL n0 ns0 r pc 2 (zNewA 64) := by
  intro k j hk hj L st hp n ns hr
  obtain ⟨x, t, rfl, q1⟩ := zpop_some hr
  clear hr
  obtain ⟨hx, hr⟩ := zck_some q1
  obtain ⟨hb, hr⟩ := zck_some hr
  obtain ⟨h1, h2, h3⟩ := hk L _ _ _ _ hr
  have h1' : n + 1 ≤ r.2.2.2.1 := h1
  have h2' : ns + x / 8 ≤ r.2.2.2.2 := h2
  refine ⟨by omega, by omega, fun ls H locs a b d => ?_⟩
  have hK := X.2.2.2.2.2.1
  have hn0 : n0 ≤ n := by have g1 := b.2.2.2.1; have g2 := b.2.2.1; have g3 := X.2.2.2.2.2.2.1; omega
  have hRc := X.2.2.2.2.2.2.2.1
  have hRs := X.2.2.2.2.2.2.2.2.1
  have hb' : x + 1 ≤ 240000000 := Nat.le_of_ble_eq_true hb
  have hx31 : x / 8 < 2 ^ 31 := by omega
  have hcl := nI_clamp hx31
  simp only [List.map_cons]
  rw [zvd_0 (zt_eq hx)]
  refine W.newa X.1 X.2.1 harr rfl hd rfl (nI_pos hx31) (by rw [hcl]; show x / 8 * 4 ≤ _; omega) (by omega) (by rw [hcl]; omega) fun cA kA comp e1 e2 e3 => ?_
  rw [hcl]
  have hAr := (hK.2 0 _ rfl).2
  have hcA : ar.1 = cA := Option.some.inj (hAr.symm.trans e1)
  subst hcA
  have kk := h3 ls (H.push { cls := ar.1, slots := Array.replicate (x / 8) (defaultValue (newarray.typeOf .int)), vm := .none }) locs a ?_ (by show ns0 ≤ ns + x / 8; omega)
  · simp only [List.map_cons] at kk
    have e0 : (Nat.add (Nat.mul 8 n) 1) % 8 = 1 := by show (8 * n + 1) % 8 = 1; omega
    have e8 : (Nat.add (Nat.mul 8 n) 1) / 8 = n := by show (8 * n + 1) / 8 = n; omega
    rw [zvd_1 e0, e8, ← b.2.2.1] at kk
    have c1 : n - n0 + 1 = Nat.succ n - n0 := by omega
    have c2 : ns - ns0 + x / 8 = Nat.add ns (Nat.div x 8) - ns0 := by show ns - ns0 + x / 8 = ns + x / 8 - ns0; omega
    rw [c1, c2]
    exact kk
  · refine zInv_push b rfl ?_ (Array.size_push ..) (fun q hq => by rw [Array.getElem?_push, if_neg (Nat.ne_of_lt hq)])
    rw [← b.2.2.1]
    unfold zent
    rw [if_pos rfl]
    show _ = some (vp_cell _ _)
    rw [Array.getElem?_push_size, arrV_new, vp_cell_i]
    congr 2
    funext q
    show _ = Value.int (zgi sz sv ev (zg 0 q))
    rw [zg_0]
    rfl

theorem gI_newarray_boolean (X : zCtx sz sv cl ar D p R s m args c gw cc own nL n0 ns0 r) (harr : (Cond.arrayClass (newarray.typeOf .boolean)).before args s = true) (hd : decode cc pc = .ok (.newarray .boolean, 2)) : zGd sz sv ev cl ar D p l e R s m args below meth c Q nL n0 ns0 r pc 2 (zNewA 65) := by
  intro k j hk hj L st hp n ns hr
  obtain ⟨x, t, rfl, q1⟩ := zpop_some hr
  clear hr
  obtain ⟨hx, hr⟩ := zck_some q1
  obtain ⟨hb, hr⟩ := zck_some hr
  obtain ⟨h1, h2, h3⟩ := hk L _ _ _ _ hr
  have h1' : n + 1 ≤ r.2.2.2.1 := h1
  have h2' : ns + x / 8 ≤ r.2.2.2.2 := h2
  refine ⟨by omega, by omega, fun ls H locs a b d => ?_⟩
  have hK := X.2.2.2.2.2.1
  have hn0 : n0 ≤ n := by have g1 := b.2.2.2.1; have g2 := b.2.2.1; have g3 := X.2.2.2.2.2.2.1; omega
  have hRc := X.2.2.2.2.2.2.2.1
  have hRs := X.2.2.2.2.2.2.2.2.1
  have hb' : x + 1 ≤ 240000000 := Nat.le_of_ble_eq_true hb
  have hx31 : x / 8 < 2 ^ 31 := by omega
  have hcl := nI_clamp hx31
  simp only [List.map_cons]
  rw [zvd_0 (zt_eq hx)]
  refine W.newa X.1 X.2.1 harr rfl hd rfl (nI_pos hx31) (by rw [hcl]; show x / 8 * 1 ≤ _; omega) (by omega) (by rw [hcl]; omega) fun cA kA comp e1 e2 e3 => ?_
  rw [hcl]
  have hAr := (hK.2 1 _ rfl).2
  have hcA : ar.2.1 = cA := Option.some.inj (hAr.symm.trans e1)
  subst hcA
  have kk := h3 ls (H.push { cls := ar.2.1, slots := Array.replicate (x / 8) (defaultValue (newarray.typeOf .boolean)), vm := .none }) locs a ?_ (by show ns0 ≤ ns + x / 8; omega)
  · simp only [List.map_cons] at kk
    have e0 : (Nat.add (Nat.mul 8 n) 1) % 8 = 1 := by show (8 * n + 1) % 8 = 1; omega
    have e8 : (Nat.add (Nat.mul 8 n) 1) / 8 = n := by show (8 * n + 1) / 8 = n; omega
    rw [zvd_1 e0, e8, ← b.2.2.1] at kk
    have c1 : n - n0 + 1 = Nat.succ n - n0 := by omega
    have c2 : ns - ns0 + x / 8 = Nat.add ns (Nat.div x 8) - ns0 := by show ns - ns0 + x / 8 = ns + x / 8 - ns0; omega
    rw [c1, c2]
    exact kk
  · refine zInv_push b rfl ?_ (Array.size_push ..) (fun q hq => by rw [Array.getElem?_push, if_neg (Nat.ne_of_lt hq)])
    rw [← b.2.2.1]
    unfold zent
    rw [if_neg (show ¬ (65 : Nat) = 64 by decide), if_pos rfl]
    show _ = some (vp_cell _ _)
    rw [Array.getElem?_push_size, arrV_new, vp_cell_i]
    congr 2
    funext q
    show _ = Value.int (zgi sz sv ev (zg 0 q))
    rw [zg_0]
    rfl

theorem gI_newarray_long (X : zCtx sz sv cl ar D p R s m args c gw cc own nL n0 ns0 r) (harr : (Cond.arrayClass (newarray.typeOf .long)).before args s = true) (hd : decode cc pc = .ok (.newarray .long, 2)) : zGd sz sv ev cl ar D p l e R s m args below meth c Q nL n0 ns0 r pc 2 (zNewA 66) := by
  intro k j hk hj L st hp n ns hr
  obtain ⟨x, t, rfl, q1⟩ := zpop_some hr
  clear hr
  obtain ⟨hx, hr⟩ := zck_some q1
  obtain ⟨hb, hr⟩ := zck_some hr
  obtain ⟨h1, h2, h3⟩ := hk L _ _ _ _ hr
  have h1' : n + 1 ≤ r.2.2.2.1 := h1
  have h2' : ns + x / 8 ≤ r.2.2.2.2 := h2
  refine ⟨by omega, by omega, fun ls H locs a b d => ?_⟩
  have hK := X.2.2.2.2.2.1
  have hn0 : n0 ≤ n := by have g1 := b.2.2.2.1; have g2 := b.2.2.1; have g3 := X.2.2.2.2.2.2.1; omega
  have hRc := X.2.2.2.2.2.2.2.1
  have hRs := X.2.2.2.2.2.2.2.2.1
  have hb' : x + 1 ≤ 240000000 := Nat.le_of_ble_eq_true hb
  have hx31 : x / 8 < 2 ^ 31 := by omega
  have hcl := nI_clamp hx31
  simp only [List.map_cons]
  rw [zvd_0 (zt_eq hx)]
  refine W.newa X.1 X.2.1 harr rfl hd rfl (nI_pos hx31) (by rw [hcl]; show x / 8 * 8 ≤ _; omega) (by omega) (by rw [hcl]; omega) fun cA kA comp e1 e2 e3 => ?_
  rw [hcl]
  have hAr := (hK.2 2 _ rfl).2
  have hcA : ar.2.2.1 = cA := Option.some.inj (hAr.symm.trans e1)
  subst hcA
  have kk := h3 ls (H.push { cls := ar.2.2.1, slots := Array.replicate (x / 8) (defaultValue (newarray.typeOf .long)), vm := .none }) locs a ?_ (by show ns0 ≤ ns + x / 8; omega)
  · simp only [List.map_cons] at kk
    have e0 : (Nat.add (Nat.mul 8 n) 1) % 8 = 1 := by show (8 * n + 1) % 8 = 1; omega
    have e8 : (Nat.add (Nat.mul 8 n) 1) / 8 = n := by show (8 * n + 1) / 8 = n; omega
    rw [zvd_1 e0, e8, ← b.2.2.1] at kk
    have c1 : n - n0 + 1 = Nat.succ n - n0 := by omega
    have c2 : ns - ns0 + x / 8 = Nat.add ns (Nat.div x 8) - ns0 := by show ns - ns0 + x / 8 = ns + x / 8 - ns0; omega
    rw [c1, c2]
    exact kk
  · refine zInv_push b rfl ?_ (Array.size_push ..) (fun q hq => by rw [Array.getElem?_push, if_neg (Nat.ne_of_lt hq)])
    rw [← b.2.2.1]
    unfold zent
    rw [if_neg (show ¬ (66 : Nat) = 64 by decide), if_neg (show ¬ (66 : Nat) = 65 by decide), if_pos rfl]
    show _ = some (vp_cell _ _)
    rw [Array.getElem?_push_size, arrV_new, vp_cell_l]
    congr 2
    funext q
    show _ = Value.long (zgl sz sv ev (Nat.xor (zg 0 q) 4))
    rw [zg_0]
    rfl

theorem gI_newarray_double (X : zCtx sz sv cl ar D p R s m args c gw cc own nL n0 ns0 r) (harr : (Cond.arrayClass (newarray.typeOf .double)).before args s = true) (hd : decode cc pc = .ok (.newarray .double, 2)) : zGd sz sv ev cl ar D p l e R s m args below meth c Q nL n0 ns0 r pc 2 (zNewA 67) := by
  intro k j hk hj L st hp n ns hr
  obtain ⟨x, t, rfl, q1⟩ := zpop_some hr
  clear hr
  obtain ⟨hx, hr⟩ := zck_some q1
  obtain ⟨hb, hr⟩ := zck_some hr
  obtain ⟨h1, h2, h3⟩ := hk L _ _ _ _ hr
  have h1' : n + 1 ≤ r.2.2.2.1 := h1
  have h2' : ns + x / 8 ≤ r.2.2.2.2 := h2
  refine ⟨by omega, by omega, fun ls H locs a b d => ?_⟩
  have hK := X.2.2.2.2.2.1
  have hn0 : n0 ≤ n := by have g1 := b.2.2.2.1; have g2 := b.2.2.1; have g3 := X.2.2.2.2.2.2.1; omega
  have hRc := X.2.2.2.2.2.2.2.1
  have hRs := X.2.2.2.2.2.2.2.2.1
  have hb' : x + 1 ≤ 240000000 := Nat.le_of_ble_eq_true hb
  have hx31 : x / 8 < 2 ^ 31 := by omega
  have hcl := nI_clamp hx31
  simp only [List.map_cons]
  rw [zvd_0 (zt_eq hx)]
  refine W.newa X.1 X.2.1 harr rfl hd rfl (nI_pos hx31) (by rw [hcl]; show x / 8 * 8 ≤ _; omega) (by omega) (by rw [hcl]; omega) fun cA kA comp e1 e2 e3 => ?_
  rw [hcl]
  have hAr := (hK.2 3 _ rfl).2
  have hcA : ar.2.2.2.1 = cA := Option.some.inj (hAr.symm.trans e1)
  subst hcA
  have kk := h3 ls (H.push { cls := ar.2.2.2.1, slots := Array.replicate (x / 8) (defaultValue (newarray.typeOf .double)), vm := .none }) locs a ?_ (by show ns0 ≤ ns + x / 8; omega)
  · simp only [List.map_cons] at kk
    have e0 : (Nat.add (Nat.mul 8 n) 1) % 8 = 1 := by show (8 * n + 1) % 8 = 1; omega
    have e8 : (Nat.add (Nat.mul 8 n) 1) / 8 = n := by show (8 * n + 1) / 8 = n; omega
    rw [zvd_1 e0, e8, ← b.2.2.1] at kk
    have c1 : n - n0 + 1 = Nat.succ n - n0 := by omega
    have c2 : ns - ns0 + x / 8 = Nat.add ns (Nat.div x 8) - ns0 := by show ns - ns0 + x / 8 = ns + x / 8 - ns0; omega
    rw [c1, c2]
    exact kk
  · refine zInv_push b rfl ?_ (Array.size_push ..) (fun q hq => by rw [Array.getElem?_push, if_neg (Nat.ne_of_lt hq)])
    rw [← b.2.2.1]
    unfold zent
    rw [if_neg (show ¬ (67 : Nat) = 64 by decide), if_neg (show ¬ (67 : Nat) = 65 by decide), if_neg (show ¬ (67 : Nat) = 66 by decide), if_pos rfl]
    show _ = some (vp_cell _ _)
    rw [Array.getElem?_push_size, arrV_new, vp_cell_d]
    rfl

theorem gI_anewarray (X : zCtx sz sv cl ar D p R s m args c gw cc own nL n0 ns0 r) {index : Nat} (hclink : (Cond.classLink own index "java/lang/Object").before args s = true) (hover : (Cond.arrayOver (.object "java/lang/Object")).before args s = true) (hd : decode cc pc = .ok (.anewarray index, 3)) : zGd sz sv ev cl ar D p l e R s m args below meth c Q nL n0 ns0 r pc 3 zNewO := by
  intro k j hk hj L st hp n ns hr
  obtain ⟨x, t, rfl, q1⟩ := zpop_some hr
  clear hr
  obtain ⟨hx, hr⟩ := zck_some q1
  obtain ⟨hb, hr⟩ := zck_some hr
  obtain ⟨h1, h2, h3⟩ := hk L _ _ _ _ hr
  have h1' : n + 1 ≤ r.2.2.2.1 := h1
  have h2' : ns + x / 8 ≤ r.2.2.2.2 := h2
  refine ⟨by omega, by omega, fun ls H locs a b d => ?_⟩
  have hK := X.2.2.2.2.2.1
  have hn0 : n0 ≤ n := by have g1 := b.2.2.2.1; have g2 := b.2.2.1; have g3 := X.2.2.2.2.2.2.1; omega
  have hRc := X.2.2.2.2.2.2.2.1
  have hRs := X.2.2.2.2.2.2.2.2.1
  have hb' : x + 1 ≤ 240000000 := Nat.le_of_ble_eq_true hb
  have hx31 : x / 8 < 2 ^ 31 := by omega
  have hcl := nI_clamp hx31
  simp only [List.map_cons]
  rw [zvd_0 (zt_eq hx)]
  refine W.anew X.1 X.2.1 X.2.2.2.1 hclink hover rfl hd rfl (nI_pos hx31) (by rw [hcl]; omega) (by omega) (by rw [hcl]; omega) fun cA kA comp e1 e2 e3 e4 => ?_
  rw [hcl]
  obtain ⟨kA', comp', g1, g2, g3, g4⟩ := (hK.2 4 _ rfl).2
  have hcA : ar.2.2.2.2 = cA := Option.some.inj (g4.symm.trans e1)
  subst hcA
  have kk := h3 ls (H.push { cls := ar.2.2.2.2, slots := Array.replicate (x / 8) .null, vm := .none }) locs a ?_ (by show ns0 ≤ ns + x / 8; omega)
  · simp only [List.map_cons] at kk
    have e0 : (Nat.add (Nat.mul 8 n) 1) % 8 = 1 := by show (8 * n + 1) % 8 = 1; omega
    have e8 : (Nat.add (Nat.mul 8 n) 1) / 8 = n := by show (8 * n + 1) / 8 = n; omega
    rw [zvd_1 e0, e8, ← b.2.2.1] at kk
    have c1 : n - n0 + 1 = Nat.succ n - n0 := by omega
    have c2 : ns - ns0 + x / 8 = Nat.add ns (Nat.div x 8) - ns0 := by show ns - ns0 + x / 8 = ns + x / 8 - ns0; omega
    rw [c1, c2]
    exact kk
  · refine zInv_push b rfl ?_ (Array.size_push ..) (fun q hq => by rw [Array.getElem?_push, if_neg (Nat.ne_of_lt hq)])
    rw [← b.2.2.1]
    unfold zent
    rw [if_neg (show ¬ (68 : Nat) = 64 by decide), if_neg (show ¬ (68 : Nat) = 65 by decide), if_neg (show ¬ (68 : Nat) = 66 by decide), if_neg (show ¬ (68 : Nat) = 67 by decide), if_pos rfl]
    show _ = some (vp_cell _ _)
    rw [Array.getElem?_push_size, arrV_new, vp_cell_q]
    congr 2
    funext q
    show _ = va_rf (zgr sz sv ev (Nat.xor (zg 0 q) 3))
    rw [zg_0]
    rfl

theorem gI_castI (X : zCtx sz sv cl ar D p R s m args c gw cc own nL n0 ns0 r) {nm : String} {index : Nat} (hlink : (Cond.classLink own index nm).before args s = true) (hnm : s.vm.findClass nm = some ar.1) (hd : decode cc pc = .ok (.checkcast index, 3)) : zGd sz sv ev cl ar D p l e R s m args below meth c Q nL n0 ns0 r pc 3 (zCastA 64) := by
  intro k j hk hj L st hp n ns hr
  obtain ⟨x, t, rfl, q1⟩ := zpop_some hr
  clear hr
  obtain ⟨hx, hr⟩ := zck_some q1
  obtain ⟨w, c0, hw, hid, hr⟩ := zfind_some hr
  obtain ⟨hkd, hr⟩ := zck_some hr
  obtain ⟨h1, h2, h3⟩ := hk L _ hp n ns hr
  refine ⟨h1, h2, fun ls H locs a b d => ?_⟩
  have kk := h3 ls H locs a b d
  simp only [List.map_cons] at kk ⊢
  rw [zaddr (hp := hp) (i := w) hid (zt_eq hx)] at kk ⊢
  have he := zren_at (sz := sz) (sv := sv) (ev := ev) (cl := cl) (ar := ar) hw
  unfold zent at he
  rw [if_pos (Nat.eq_of_beq_eq_true hkd)] at he
  exact va_castA X.1 X.2.1 X.2.2.2.1 hlink b.1 w he hnm hd kk
theorem gI_getstatic (X : zCtx sz sv cl ar D p R s m args c gw cc own nL n0 ns0 r) {C nm de ref : String} {v index : Nat} (hZ : va_Z C nm de (zvd sz sv ev v) (zA sz) s s.heap) (hlink : (Cond.fieldLink own index ref nm de).before args s = true) (hsame : ∀ x, s.fieldFound? C nm de = some x → s.fieldFound? ref nm de = some x) (hd : decode cc pc = .ok (.getstatic index, 3)) : zGd sz sv ev cl ar D p l e R s m args below meth c Q nL n0 ns0 r pc 3 (zPush v) := by
  intro k j hk hj L st hp n ns hr
  obtain ⟨h1, h2, h3⟩ := hk L (v :: st) hp n ns hr
  exact ⟨h1, h2, fun ls H locs a b d => va_gets X.1 X.2.1 hZ b.2.2.2 X.2.2.2.1 hlink hsame hd (h3 ls H locs a b d)⟩
theorem gI_ldcS (X : zCtx sz sv cl ar D p R s m args c gw cc own nL n0 ns0 r) {tx : String} {v index a : Nat} (hv : zvd sz sv ev v = .ref a) (hZ : vk_R own index tx a s) (hd : decode cc pc = .ok (.ldc index, 2)) : zGd sz sv ev cl ar D p l e R s m args below meth c Q nL n0 ns0 r pc 2 (zPush v) :=
  gPush X fun ls H locs cells slots st k => va_ldcS X.1 X.2.1 X.2.2.2.1 hZ hd (by rw [hv] at k; exact k)
theorem gI_ldc (X : zCtx sz sv cl ar D p R s m args c gw cc own nL n0 ns0 r) {x : Int32} {v index : Nat} (hc : (Jvm.Cond.constant own index x).before args s = true) (hv : v % 8 = 0) (he : x = nI (v / 8)) (hd : decode cc pc = .ok (.ldc index, 2)) : zGd sz sv ev cl ar D p l e R s m args below meth c Q nL n0 ns0 r pc 2 (zPush v) :=
  gPush X fun ls H locs cells slots st k => lv_ldc X.1 X.2.1 X.2.2.2.1 hc hd (by rw [zvd_0 hv, ← he] at k; exact k)
theorem gI_ldcw (X : zCtx sz sv cl ar D p R s m args c gw cc own nL n0 ns0 r) {x : Int32} {v index : Nat} (hc : (Jvm.Cond.constant own index x).before args s = true) (hv : v % 8 = 0) (he : x = nI (v / 8)) (hd : decode cc pc = .ok (.ldc_w index, 3)) : zGd sz sv ev cl ar D p l e R s m args below meth c Q nL n0 ns0 r pc 3 (zPush v) :=
  gPush X fun ls H locs cells slots st k => lv_ldcw X.1 X.2.1 X.2.2.2.1 hc hd (by rw [zvd_0 hv, ← he] at k; exact k)
theorem gI_ldcf (X : zCtx sz sv cl ar D p R s m args c gw cc own nL n0 ns0 r) {x : UInt32} {v index : Nat} (hc : (Jvm.Cond.constantFloat own index x).before args s = true) (hv : v % 8 = 5) (he : x = UInt32.ofNat (v / 8)) (hd : decode cc pc = .ok (.ldc index, 2)) : zGd sz sv ev cl ar D p l e R s m args below meth c Q nL n0 ns0 r pc 2 (zPush v) :=
  gPush X fun ls H locs cells slots st k => lv_ldcf X.1 X.2.1 X.2.2.2.1 hc hd (by rw [zvd_5 hv, ← he] at k; exact k)
theorem gI_fconst0 (X : zCtx sz sv cl ar D p R s m args c gw cc own nL n0 ns0 r) {v : Nat} (hv : v % 8 = 5) (he : FP.fconst0 = UInt32.ofNat (v / 8)) (hd : decode cc pc = .ok (.fconst 0, 1)) : zGd sz sv ev cl ar D p l e R s m args below meth c Q nL n0 ns0 r pc 1 (zPush v) :=
  gPush X fun ls H locs cells slots st k => lv_fconst0 X.1 X.2.1 hd (by rw [zvd_5 hv, ← he] at k; exact k)
theorem gI_dconst0 (X : zCtx sz sv cl ar D p R s m args c gw cc own nL n0 ns0 r) {v : Nat} (hv : v % 8 = 6) (he : FP.dconst0 = UInt64.ofNat (v / 8)) (hd : decode cc pc = .ok (.dconst 0, 1)) : zGd sz sv ev cl ar D p l e R s m args below meth c Q nL n0 ns0 r pc 1 (zPush v) :=
  gPush X fun ls H locs cells slots st k => lv_dconst0 X.1 X.2.1 hd (by rw [zvd_6 hv, ← he] at k; exact k)

end ZB