/-! cells: fields, rows, makings -/
noncomputable def zfN (x : Nat) (k : Nat → zR) : zR := Nat.rec (motive := fun _ => zR) (k 0) (fun n _ => k (Nat.succ n)) x
theorem zfN_eq (x : Nat) (k : Nat → zR) : zfN x k = k x := by cases x <;> rfl
noncomputable def zfind (id : Nat) (hp : zHp) (k : zC → zR) : zR := List.rec (motive := fun _ => zR) none (fun c _ ih => cond (Nat.beq c.1 id) (k c) ih) hp
theorem zfind_some {id : Nat} {k : zC → zR} {o : zOut} : ∀ {hp : zHp}, zfind id hp k = some o → ∃ (i : Nat) (c : zC), hp[i]? = some c ∧ c.1 = id ∧ k c = some o
  | [], h => nomatch h
  | c :: t, h => by
    have h' : cond (Nat.beq c.1 id) (k c) (zfind id t k) = some o := h
    cases hb : Nat.beq c.1 id with
    | true => rw [hb] at h'; exact ⟨0, c, rfl, Nat.eq_of_beq_eq_true hb, h'⟩
    | false =>
      rw [hb] at h'
      obtain ⟨i, c', h1, h2, h3⟩ := zfind_some h'
      exact ⟨i + 1, c', by simpa using h1, h2, h3⟩
noncomputable def zupd (id : Nat) (ck : zC → Bool) (f : zC → Nat) (hp : zHp) : (zHp → zR) → zR := List.rec (motive := fun _ => (zHp → zR) → zR) (fun _ => none) (fun c t ih k => cond (Nat.beq c.1 id) (zck (ck c) (zfN (f c) fun v => k ((c.1, c.2.1, c.2.2.1, v) :: t))) (ih fun t' => k (c :: t'))) hp
theorem zupd_some {id : Nat} {ck : zC → Bool} {f : zC → Nat} {o : zOut} : ∀ {hp : zHp} {k : zHp → zR}, zupd id ck f hp k = some o → ∃ (i : Nat) (c : zC), hp[i]? = some c ∧ c.1 = id ∧ ck c = true ∧ k (hp.set i (c.1, c.2.1, c.2.2.1, f c)) = some o
  | [], _, h => nomatch h
  | c :: t, k, h => by
    have h' : cond (Nat.beq c.1 id) (zck (ck c) (zfN (f c) fun v => k ((c.1, c.2.1, c.2.2.1, v) :: t))) (zupd id ck f t fun t' => k (c :: t')) = some o := h
    cases hb : Nat.beq c.1 id with
    | true =>
      rw [hb] at h'
      obtain ⟨h1, h2⟩ := zck_some h'
      rw [zfN_eq] at h2
      exact ⟨0, c, rfl, Nat.eq_of_beq_eq_true hb, h1, h2⟩
    | false =>
      rw [hb] at h'
      obtain ⟨i, c', h1, h2, h3, h4⟩ := zupd_some h'
      exact ⟨i + 1, c', by simpa using h1, h2, h3, h4⟩
theorem zwf_set : ∀ {hp : zHp} {n i : Nat} {c c' : zC}, zwf n hp → hp[i]? = some c → c'.1 = c.1 → zwf n (hp.set i c')
  | [], _, _, _, _, _, h, _ => by simp at h
  | x :: t, n, 0, c, c', w, h, e => by
    simp at h; subst h
    exact ⟨by rw [e]; exact w.1, by rw [e]; exact w.2⟩
  | x :: t, n, i + 1, c, c', w, h, e => ⟨w.1, zwf_set w.2 (by simpa using h) e⟩
/-- a default's code -/
def zdv (t : FieldType) : Nat := match t with | .long => 4 | .float => 5 | .double => 6 | .object _ => 3 | .array _ => 3 | _ => 0
theorem zdv_eq {sz : Nat} {sv : Nat → Value} {ev : Nat → Int32} (t : FieldType) : zvd sz sv ev (zdv t) = defaultValue t := by
  cases t <;> rfl
noncomputable def zGetf (ci kk : Nat) : zI := fun k _ L st hp n ns => zpop st fun a t => zck (zt a 1) (zfind (Nat.div a 8) hp fun c => zck (Nat.beq c.2.1 ci) (k L (zg c.2.2.2 kk :: t) hp n ns))
noncomputable def zPutf (ok : Nat → Bool) (ci kk : Nat) : zI := fun k _ L st hp n ns => zpop st fun v t => zpop t fun a t => zck (ok v) (zck (Nat.blt v 4722366482869645213696) (zck (zt a 1) (zupd (Nat.div a 8) (fun c => Nat.beq c.2.1 ci) (fun c => zs c.2.2.2 kk v) hp fun hp => k L t hp n ns)))
noncomputable def zAld (ok : Nat → Bool) (kd x : Nat) : zI := fun k _ L st hp n ns => zpop st fun i t => zpop t fun a t => zck (zt i 0) (zck (Nat.blt i 17179869184) (zck (zt a 1) (zfind (Nat.div a 8) hp fun c => zck (Nat.beq c.2.1 kd) (zck (Nat.blt (Nat.div i 8) c.2.2.1) (zck (ok (Nat.xor (zg c.2.2.2 (Nat.div i 8)) x)) (k L (Nat.xor (zg c.2.2.2 (Nat.div i 8)) x :: t) hp n ns))))))
noncomputable def zAst (ok : Nat → Bool) (kd x : Nat) : zI := fun k _ L st hp n ns => zpop st fun v t => zpop t fun i t => zpop t fun a t => zck (ok v) (zck (Nat.blt (Nat.xor v x) 4722366482869645213696) (zck (zt i 0) (zck (Nat.blt i 17179869184) (zck (zt a 1) (zupd (Nat.div a 8) (fun c => cond (Nat.beq c.2.1 kd) (Nat.blt (Nat.div i 8) c.2.2.1) false) (fun c => zs c.2.2.2 (Nat.div i 8) (Nat.xor v x)) hp fun hp => k L t hp n ns)))))
noncomputable def zAlen : zI := fun k _ L st hp n ns => zpop st fun a t => zck (zt a 1) (zfind (Nat.div a 8) hp fun c => zck (Nat.blt 63 c.2.1) (zck (Nat.blt c.2.1 69) (k L (Nat.mul 8 c.2.2.1 :: t) hp n ns)))
noncomputable def zNew (ci nf df : Nat) : zI := fun k _ L st hp n ns => k L (Nat.add (Nat.mul 8 n) 1 :: st) ((n, ci, 0, df) :: hp) (Nat.succ n) (Nat.add ns nf)
noncomputable def zNewA (kd : Nat) : zI := fun k _ L st hp n ns => zpop st fun x t => zck (zt x 0) (zck (Nat.blt x 240000000) (k L (Nat.add (Nat.mul 8 n) 1 :: t) ((n, kd, Nat.div x 8, 0) :: hp) (Nat.succ n) (Nat.add ns (Nat.div x 8))))
noncomputable def zCastA (kd : Nat) : zI := fun k _ L st hp n ns => zpop st fun a t => zck (zt a 1) (zfind (Nat.div a 8) hp fun c => zck (Nat.beq c.2.1 kd) (k L (a :: t) hp n ns))

section ZB
variable {sz : Nat} {sv : Nat → Value} {ev : Nat → Int32} {cl : List vw_C} {ar : zAr} {D : va_G}
variable {p : Program} {l : Launch} {e : Env} {R : Room} {s : State} {m : MethodId} {args : Array Value} {below : List Frame} {meth : Method} {c : Code} {Q : State → Prop}
variable {gw : List Cond} {cc : ByteArray} {own : String} {nL n0 ns0 : Nat} {r : zOut} {pc : Nat}

theorem zent_obj {c : zC} {ci : Nat} (h : c.2.1 = ci) (hci : ci < 64) : zent sz sv ev cl ar c = .inr (ci, (List.range (znf cl ci)).map (fun i => zvd sz sv ev (zg c.2.2.2 i))) := by
  unfold zent
  rw [if_neg (by omega), if_neg (by omega), if_neg (by omega), if_neg (by omega), if_neg (by omega), h]
theorem zren_at {hp : zHp} {i : Nat} {c : zC} (h : hp[i]? = some c) : (zren sz sv ev cl ar hp)[i]? = some (sz + c.1, zent sz sv ev cl ar c) := by
  simp only [zren, List.getElem?_map, h, Option.map_some]
theorem zaddr {hp : zHp} {i : Nat} {c : zC} {a : Nat} (hi : c.1 = a / 8) (ha : a % 8 = 1) : zvd sz sv ev a = .ref (sz + c.1) := by rw [zvd_1 ha, hi]
theorem znf_eq {ci : Nat} {C : String} {T : u_T} {N : Nat} (hc : cl[ci]? = some (C, T, N)) : znf cl ci = N := by unfold znf; rw [hc]; rfl
theorem zInv_set {s : State} {hp : zHp} {n i k : Nat} {c c' : zC} {H H1 : Heap} {locs : List Loc} (b : zInv sz sv ev cl ar D s hp n H locs) (hi : hp[i]? = some c) (e : c'.1 = c.1) (hat : va_at D cl (sz + c.1, zent sz sv ev cl ar c') H1) (z : H1.size = H.size) (oq : ∀ q : Nat, q ≠ sz + c.1 → H1[q]? = H[q]?) : zInv sz sv ev cl ar D s (hp.set i c') n H1 (locs ++ [⟨sz + c.1, k⟩]) := by
  have hD : va_D (zA sz) (zren sz sv ev cl ar hp) := zD b.2.1
  refine ⟨?_, zwf_set b.2.1 hi e, by rw [z]; exact b.2.2.1, b.2.2.2.put z oq (Nat.le_add_right _ _)⟩
  have h := b.1.set hD (zren_at hi) hat oq
  have e2 : zren sz sv ev cl ar (hp.set i c') = (zren sz sv ev cl ar hp).set i (sz + c.1, zent sz sv ev cl ar c') := by
    unfold zren
    rw [List.map_set]
    simp [e]
  rw [e2]; exact h
theorem zInv_push {s : State} {hp : zHp} {n : Nat} {c' : zC} {H H1 : Heap} {locs : List Loc} (b : zInv sz sv ev cl ar D s hp n H locs) (e : c'.1 = n) (hat : va_at D cl (sz + n, zent sz sv ev cl ar c') H1) (z : H1.size = H.size + 1) (oq : ∀ q : Nat, q < H.size → H1[q]? = H[q]?) : zInv sz sv ev cl ar D s (c' :: hp) (n + 1) H1 locs := by
  have hk : ∀ (k : Nat) (x : Nat × va_E), (zren sz sv ev cl ar hp)[k]? = some x → H1[x.1]? = H[x.1]? := fun k x hx => oq x.1 ((b.1 k x hx).lt)
  refine ⟨fun k q hq => ?_, ⟨by omega, by rw [e]; exact b.2.1⟩, by rw [z, b.2.2.1]; omega, Nat.le_trans b.2.2.2.1 (by omega), fun q h1 h2 => (oq q (Nat.lt_of_lt_of_le h1 b.2.2.2.1)).trans (b.2.2.2.2.1 q h1 h2), b.2.2.2.2.2⟩
  cases k with
  | zero =>
    simp only [zren, List.map_cons, List.getElem?_cons_zero, Option.some.injEq] at hq
    subst hq
    rw [e]; exact hat
  | succ k =>
    have hq' : (zren sz sv ev cl ar hp)[k]? = some q := by simpa [zren] using hq
    exact (b.1.kept hk) k q hq'

theorem gI_getfield (X : zCtx sz sv cl ar D p R s m args c gw cc own nL n0 ns0 r) {ref C : String} {T : u_T} {N ci index kf : Nat} (hlay : ∀ w ∈ u_ws C T N, w.before args s = true) (hc : cl[ci]? = some (C, T, N)) (hci : ci < 64) (hk : kf < N) (hlink : (Cond.fieldLink own index ref (T kf).2.1 (T kf).2.2.1).before args s = true) (hsame : ∀ x, s.fieldFound? (T kf).1 (T kf).2.1 (T kf).2.2.1 = some x → s.fieldFound? ref (T kf).2.1 (T kf).2.2.1 = some x) (hd : decode cc pc = .ok (.getfield index, 3)) : zGd sz sv ev cl ar D p l e R s m args below meth c Q nL n0 ns0 r pc 3 (zGetf ci kf) := by
  intro k j hk' hj L st hp n ns hr
  obtain ⟨x, t, rfl, q1⟩ := zpop_some hr
  clear hr
  obtain ⟨hx, hr⟩ := zck_some q1
  obtain ⟨i, c0, hi, hid, hr⟩ := zfind_some hr
  obtain ⟨hkd, hr⟩ := zck_some hr
  obtain ⟨h1, h2, h3⟩ := hk' L _ hp n ns hr
  refine ⟨h1, h2, fun ls H locs a b d => ?_⟩
  have kk := h3 ls H locs a b d
  simp only [List.map_cons] at kk ⊢
  rw [zaddr (hp := hp) (i := i) hid (zt_eq hx)]
  have he := zren_at (sz := sz) (sv := sv) (ev := ev) (cl := cl) (ar := ar) hi
  rw [zent_obj (Nat.eq_of_beq_eq_true hkd) hci, znf_eq hc] at he
  exact va_get X.1 X.2.1 hlay (fun _ h => h) X.2.2.2.1 X.2.2.2.2.2.1 b.1 i he hc kf hk hlink hsame (by rw [List.getElem?_map, List.getElem?_range hk]; rfl) hd kk

theorem gI_getfieldN (X : zCtx sz sv cl ar D p R s m args c gw cc own nL n0 ns0 r) {ref C : String} {T : u_T} {N ci index kf : Nat} (hlay : ∀ w ∈ u_ws C T N, w.before args s = true) (hc : cl[ci]? = some (C, T, N)) (hci : ci < 64) (hk : kf < N) {host : String} (hlink : (Cond.fieldLinkNest own index ref (T kf).2.1 (T kf).2.2.1 host).before args s = true) (hsame : ∀ x, s.fieldFound? (T kf).1 (T kf).2.1 (T kf).2.2.1 = some x → s.fieldFound? ref (T kf).2.1 (T kf).2.2.1 = some x) (hd : decode cc pc = .ok (.getfield index, 3)) : zGd sz sv ev cl ar D p l e R s m args below meth c Q nL n0 ns0 r pc 3 (zGetf ci kf) := by
  intro k j hk' hj L st hp n ns hr
  obtain ⟨x, t, rfl, q1⟩ := zpop_some hr
  clear hr
  obtain ⟨hx, hr⟩ := zck_some q1
  obtain ⟨i, c0, hi, hid, hr⟩ := zfind_some hr
  obtain ⟨hkd, hr⟩ := zck_some hr
  obtain ⟨h1, h2, h3⟩ := hk' L _ hp n ns hr
  refine ⟨h1, h2, fun ls H locs a b d => ?_⟩
  have kk := h3 ls H locs a b d
  simp only [List.map_cons] at kk ⊢
  rw [zaddr (hp := hp) (i := i) hid (zt_eq hx)]
  have he := zren_at (sz := sz) (sv := sv) (ev := ev) (cl := cl) (ar := ar) hi
  rw [zent_obj (Nat.eq_of_beq_eq_true hkd) hci, znf_eq hc] at he
  exact va_getN X.1 X.2.1 hlay (fun _ h => h) X.2.2.2.1 X.2.2.2.2.2.1 b.1 i he hc kf hk hlink hsame (by rw [List.getElem?_map, List.getElem?_range hk]; rfl) hd kk

theorem zobj_set {c : zC} {ci kf v : Nat} {C : String} {T : u_T} {N : Nat} (hc : cl[ci]? = some (C, T, N)) (hkd : c.2.1 = ci) (hci : ci < 64) (hk : kf < N) (hv : v < 2 ^ 72) {cell : Cell} {a : Nat} {H1 : Heap} (hap : ∀ x y, x < N → y < N → x ≠ y → (D.2 ci) x ≠ (D.2 ci) y)
    (q2 : cell.cls = D.1 ci) (q3 : cell.vm = .none) (q4 : ∀ k, k < N → cell.slots[D.2 ci k]? = some (vp_V ((List.range N).map (fun i => zvd sz sv ev (zg c.2.2.2 i))) k)) (e1 : H1[a]? = some (cell.setSlot (D.2 ci kf) (zvd sz sv ev v))) :
    va_at D cl (a, zent sz sv ev cl ar (c.1, c.2.1, c.2.2.1, zs c.2.2.2 kf v)) H1 := by
  rw [zent_obj (ci := ci) (by exact hkd) hci, znf_eq hc]
  refine ⟨_, hc, _, e1, q2, q3, fun j hj => ?_⟩
  rw [t_set q4 hap hk _ j hj]
  unfold updV vp_V
  simp only [List.getD_eq_getElem?_getD, List.getElem?_map, List.getElem?_range hj, Option.map_some, Option.getD_some]
  rw [zg_zs _ _ _ _ hv]
  by_cases e : j = kf
  · rw [if_pos e, if_pos e]
  · rw [if_neg e, if_neg e]

theorem gI_putfield (X : zCtx sz sv cl ar D p R s m args c gw cc own nL n0 ns0 r) {ref C : String} {T : u_T} {N ci index kf : Nat} (hlay : ∀ w ∈ u_ws C T N, w.before args s = true) (hc : cl[ci]? = some (C, T, N)) (hci : ci < 64) (hk : kf < N) {ok : Nat → Bool} {ty : FieldType} (hok : ∀ v, ok v = true → narrow ty (zvd sz sv ev v) = zvd sz sv ev v ∧ fits ty (zvd sz sv ev v) = true) (ty0 : Nat → FieldType) (hty : ∀ k, k < N → parseFieldDescriptor (T k).2.2.1 = some (ty0 k)) (hnm : ∀ a, a < N → ∀ b, b < N → a ≠ b → (T a).2.1 ≠ (T b).2.1) (hdd : parseFieldDescriptor (T kf).2.2.1 = some ty) (hlink : (Cond.fieldLink own index ref (T kf).2.1 (T kf).2.2.1).before args s = true) (hsame : ∀ x, s.fieldFound? (T kf).1 (T kf).2.1 (T kf).2.2.1 = some x → s.fieldFound? ref (T kf).2.1 (T kf).2.2.1 = some x) (hfin : (T kf).2.2.2 = false) (hd : decode cc pc = .ok (.putfield index, 3)) : zGd sz sv ev cl ar D p l e R s m args below meth c Q nL n0 ns0 r pc 3 (zPutf ok ci kf) := by
  intro k j hk' hj L st hp n ns hr
  obtain ⟨v, t, rfl, q1⟩ := zpop_some hr
  clear hr
  obtain ⟨x, t, rfl, hr⟩ := zpop_some q1
  clear q1
  obtain ⟨hv, hr⟩ := zck_some hr
  obtain ⟨hv72, hr⟩ := zck_some hr
  obtain ⟨hx, hr⟩ := zck_some hr
  obtain ⟨i, c0, hi, hid, hkd, hr⟩ := zupd_some hr
  obtain ⟨h1, h2, h3⟩ := hk' L t _ n ns hr
  refine ⟨h1, h2, fun ls H locs a b d => ?_⟩
  simp only [List.map_cons]
  rw [zaddr (hp := hp) (i := i) hid (zt_eq hx)]
  have he := zren_at (sz := sz) (sv := sv) (ev := ev) (cl := cl) (ar := ar) hi
  have hkd' := Nat.eq_of_beq_eq_true hkd
  rw [zent_obj hkd' hci, znf_eq hc] at he
  obtain ⟨hn, hfit⟩ := hok v hv
  have hK := X.2.2.2.2.2.1
  have hap := va_apart (own := own) hlay (fun _ h => h) ty0 hty hnm hK hc
  obtain ⟨r0, g1, cell, q1, q2, q3, q4⟩ := b.1 i _ he
  have hr0 : r0 = (C, T, N) := Option.some.inj (g1.symm.trans hc)
  subst hr0
  obtain ⟨hS, hfc, kC, hkC, hkind⟩ := hK.1 ci _ hc
  obtain ⟨cf, kf', fi, f, hfi, hsl⟩ := hS kf hk
  have hv72' : v < 2 ^ 72 := Nat.lt_of_lt_of_le (Nat.lt_of_succ_le (Nat.le_of_ble_eq_true hv72)) (by decide)
  have hst := (u_facts hfc hkC (u_lays hlay (fun _ h => h) hk) hfi).1
  have hlay2 := hlay _ (u_in_lay hk)
  unfold u_lay at hlay2
  rw [if_neg (by rw [hfin]; decide)] at hlay2
  have h6 := u_store hfc hkC hkind hlay2 hfi hdd hn hfit
  refine W.putK X.1 X.2.1 (f := f) ⟨X.2.2.2.1, hlink, ⟨_, _, _, hsame _ hfi⟩, hst⟩ (by rw [q2]; exact h6) q1 q3 (by rw [hsl]; exact k2_hasslot (q4 kf hk)) rfl rfl hd fun H' e1 e2 e3 => ?_
  rw [hsl] at e1 ⊢
  exact h3 ls H' _ a (zInv_set b hi rfl (zobj_set hc hkd' hci hk hv72' hap q2 q3 q4 e1) e2 e3) d

theorem gI_putfieldN (X : zCtx sz sv cl ar D p R s m args c gw cc own nL n0 ns0 r) {ref C : String} {T : u_T} {N ci index kf : Nat} (hlay : ∀ w ∈ u_ws C T N, w.before args s = true) (hc : cl[ci]? = some (C, T, N)) (hci : ci < 64) (hk : kf < N) {ok : Nat → Bool} {ty : FieldType} (hok : ∀ v, ok v = true → narrow ty (zvd sz sv ev v) = zvd sz sv ev v ∧ fits ty (zvd sz sv ev v) = true) (ty0 : Nat → FieldType) (hty : ∀ k, k < N → parseFieldDescriptor (T k).2.2.1 = some (ty0 k)) (hnm : ∀ a, a < N → ∀ b, b < N → a ≠ b → (T a).2.1 ≠ (T b).2.1) (hdd : parseFieldDescriptor (T kf).2.2.1 = some ty) {host : String} (hlink : (Cond.fieldLinkNest own index ref (T kf).2.1 (T kf).2.2.1 host).before args s = true) (hsame : ∀ x, s.fieldFound? (T kf).1 (T kf).2.1 (T kf).2.2.1 = some x → s.fieldFound? ref (T kf).2.1 (T kf).2.2.1 = some x) (hfin : (T kf).2.2.2 = false) (hd : decode cc pc = .ok (.putfield index, 3)) : zGd sz sv ev cl ar D p l e R s m args below meth c Q nL n0 ns0 r pc 3 (zPutf ok ci kf) := by
  intro k j hk' hj L st hp n ns hr
  obtain ⟨v, t, rfl, q1⟩ := zpop_some hr
  clear hr
  obtain ⟨x, t, rfl, hr⟩ := zpop_some q1
  clear q1
  obtain ⟨hv, hr⟩ := zck_some hr
  obtain ⟨hv72, hr⟩ := zck_some hr
  obtain ⟨hx, hr⟩ := zck_some hr
  obtain ⟨i, c0, hi, hid, hkd, hr⟩ := zupd_some hr
  obtain ⟨h1, h2, h3⟩ := hk' L t _ n ns hr
  refine ⟨h1, h2, fun ls H locs a b d => ?_⟩
  simp only [List.map_cons]
  rw [zaddr (hp := hp) (i := i) hid (zt_eq hx)]
  have he := zren_at (sz := sz) (sv := sv) (ev := ev) (cl := cl) (ar := ar) hi
  have hkd' := Nat.eq_of_beq_eq_true hkd
  rw [zent_obj hkd' hci, znf_eq hc] at he
  obtain ⟨hn, hfit⟩ := hok v hv
  have hK := X.2.2.2.2.2.1
  have hap := va_apart (own := own) hlay (fun _ h => h) ty0 hty hnm hK hc
  obtain ⟨r0, g1, cell, q1, q2, q3, q4⟩ := b.1 i _ he
  have hr0 : r0 = (C, T, N) := Option.some.inj (g1.symm.trans hc)
  subst hr0
  obtain ⟨hS, hfc, kC, hkC, hkind⟩ := hK.1 ci _ hc
  obtain ⟨cf, kf', fi, f, hfi, hsl⟩ := hS kf hk
  have hv72' : v < 2 ^ 72 := Nat.lt_of_lt_of_le (Nat.lt_of_succ_le (Nat.le_of_ble_eq_true hv72)) (by decide)
  have hst := (u_facts hfc hkC (u_lays hlay (fun _ h => h) hk) hfi).1
  have hlay2 := hlay _ (u_in_lay hk)
  unfold u_lay at hlay2
  rw [if_neg (by rw [hfin]; decide)] at hlay2
  have h6 := u_store hfc hkC hkind hlay2 hfi hdd hn hfit
  refine va_WputK X.1 X.2.1 (f := f) X.2.2.2.1 hlink (hsame _ hfi) hst (by rw [q2]; exact h6) q1 q3 (by rw [hsl]; exact k2_hasslot (q4 kf hk)) rfl rfl hd fun H' e1 e2 e3 => ?_
  rw [hsl] at e1 ⊢
  exact h3 ls H' _ a (zInv_set b hi rfl (zobj_set hc hkd' hci hk hv72' hap q2 q3 q4 e1) e2 e3) d

theorem gI_putfieldF (X : zCtx sz sv cl ar D p R s m args c gw cc own nL n0 ns0 r) {ref C : String} {T : u_T} {N ci index kf : Nat} (hlay : ∀ w ∈ u_ws C T N, w.before args s = true) (hc : cl[ci]? = some (C, T, N)) (hci : ci < 64) (hk : kf < N) {ok : Nat → Bool} {ty : FieldType} (hok : ∀ v, ok v = true → narrow ty (zvd sz sv ev v) = zvd sz sv ev v ∧ fits ty (zvd sz sv ev v) = true) (ty0 : Nat → FieldType) (hty : ∀ k, k < N → parseFieldDescriptor (T k).2.2.1 = some (ty0 k)) (hnm : ∀ a, a < N → ∀ b, b < N → a ≠ b → (T a).2.1 ≠ (T b).2.1) (hdd : parseFieldDescriptor (T kf).2.2.1 = some ty) (hlink : (Cond.fieldLink own index ref (T kf).2.1 (T kf).2.2.1).before args s = true) (hsame : ∀ x, s.fieldFound? (T kf).1 (T kf).2.1 (T kf).2.2.1 = some x → s.fieldFound? ref (T kf).2.1 (T kf).2.2.1 = some x) (hfin : (T kf).2.2.2 = true) (hin2 : meth.name = "<init>") (hdecl : (T kf).1 = own) (hd : decode cc pc = .ok (.putfield index, 3)) : zGd sz sv ev cl ar D p l e R s m args below meth c Q nL n0 ns0 r pc 3 (zPutf ok ci kf) := by
  intro k j hk' hj L st hp n ns hr
  obtain ⟨v, t, rfl, q1⟩ := zpop_some hr
  clear hr
  obtain ⟨x, t, rfl, hr⟩ := zpop_some q1
  clear q1
  obtain ⟨hv, hr⟩ := zck_some hr
  obtain ⟨hv72, hr⟩ := zck_some hr
  obtain ⟨hx, hr⟩ := zck_some hr
  obtain ⟨i, c0, hi, hid, hkd, hr⟩ := zupd_some hr
  obtain ⟨h1, h2, h3⟩ := hk' L t _ n ns hr
  refine ⟨h1, h2, fun ls H locs a b d => ?_⟩
  simp only [List.map_cons]
  rw [zaddr (hp := hp) (i := i) hid (zt_eq hx)]
  have he := zren_at (sz := sz) (sv := sv) (ev := ev) (cl := cl) (ar := ar) hi
  have hkd' := Nat.eq_of_beq_eq_true hkd
  rw [zent_obj hkd' hci, znf_eq hc] at he
  obtain ⟨hn, hfit⟩ := hok v hv
  have hK := X.2.2.2.2.2.1
  have hap := va_apart (own := own) hlay (fun _ h => h) ty0 hty hnm hK hc
  obtain ⟨r0, g1, cell, q1, q2, q3, q4⟩ := b.1 i _ he
  have hr0 : r0 = (C, T, N) := Option.some.inj (g1.symm.trans hc)
  subst hr0
  obtain ⟨hS, hfc, kC, hkC, hkind⟩ := hK.1 ci _ hc
  obtain ⟨cf, kf', fi, f, hfi, hsl⟩ := hS kf hk
  have hv72' : v < 2 ^ 72 := Nat.lt_of_lt_of_le (Nat.lt_of_succ_le (Nat.le_of_ble_eq_true hv72)) (by decide)
  have hst := (u_facts hfc hkC (u_lays hlay (fun _ h => h) hk) hfi).1
  have hlay2 := hlay _ (u_in_lay hk)
  unfold u_lay at hlay2
  rw [if_pos hfin] at hlay2
  have hcf : m.cls = cf := by
    obtain ⟨_, _, c', _, _, _, -, -, hf', -, -, -, hown2, -⟩ := Cond.laysFinal_spec hlay2
    have e1 : c' = cf := by have := hfi.symm.trans hf'; simp at this; exact this.1.symm
    rw [hdecl] at hown2
    rw [← e1]; exact Option.some.inj (X.2.2.2.1.symm.trans hown2)
  have h6 := u_fits hfc hkC hkind (Or.inr hlay2) hfi hdd hn hfit
  refine W.putFinK X.1 X.2.1 X.2.2.2.1 hlink (hsame _ hfi) hst hcf hin2 (by rw [q2]; exact h6) q1 q3 (by rw [hsl]; exact k2_hasslot (q4 kf hk)) rfl rfl hd fun H' e1 e2 e3 => ?_
  rw [hsl] at e1 ⊢
  exact h3 ls H' _ a (zInv_set b hi rfl (zobj_set hc hkd' hci hk hv72' hap q2 q3 q4 e1) e2 e3) d

theorem zin {j N : Nat} (h : j < N) (h31 : j < 2 ^ 31) : vp_in (nI j) N := by
  intro z
  rcases z with z | z
  · exact nI_pos h31 z
  · rw [nI_clamp h31] at z; omega
theorem zi31 {i : Nat} (h : Nat.blt i 17179869184 = true) : i / 8 < 2 ^ 31 := by
  have : i + 1 ≤ 17179869184 := Nat.le_of_ble_eq_true h
  omega
theorem zgi_eq {v : Nat} (h : zisI v = true) : zvd sz sv ev v = .int (zgi sz sv ev v) := by
  obtain ⟨x, hx⟩ := zI_int (sz := sz) (sv := sv) (ev := ev) h
  unfold zgi; rw [hx]
theorem zgl_eq {v : Nat} (h : zt v 4 = true) : zvd sz sv ev v = .long (zgl sz sv ev v) := by
  unfold zgl; rw [zvd_4 (zt_eq h)]
theorem zgr_eq (hs : zSv sv) {v : Nat} (h : zisA v = true) : zvd sz sv ev v = va_rf (zgr sz sv ev v) := by
  unfold zgr
  rcases zA_ref (sz := sz) (ev := ev) hs h with e | ⟨a, e⟩ <;> rw [e] <;> rfl

theorem gI_iaload (X : zCtx sz sv cl ar D p R s m args c gw cc own nL n0 ns0 r) (hd : decode cc pc = .ok (.iaload, 1)) : zGd sz sv ev cl ar D p l e R s m args below meth c Q nL n0 ns0 r pc 1 (zAld zisI 64 0) := by
  intro k j hk' hj L st hp n ns hr
  obtain ⟨i, t, rfl, q1⟩ := zpop_some hr
  clear hr
  obtain ⟨x, t, rfl, hr⟩ := zpop_some q1
  clear q1
  obtain ⟨hi0, hr⟩ := zck_some hr
  obtain ⟨hi31, hr⟩ := zck_some hr
  obtain ⟨hx, hr⟩ := zck_some hr
  obtain ⟨w, c0, hw, hid, hr⟩ := zfind_some hr
  obtain ⟨hkd, hr⟩ := zck_some hr
  obtain ⟨hlt, hr⟩ := zck_some hr
  obtain ⟨hok, hr⟩ := zck_some hr
  obtain ⟨h1, h2, h3⟩ := hk' L _ hp n ns hr
  refine ⟨h1, h2, fun ls H locs a b d => ?_⟩
  have kk := h3 ls H locs a b d
  simp only [List.map_cons] at kk ⊢
  rw [zaddr (hp := hp) (i := w) hid (zt_eq hx), zvd_0 (zt_eq hi0)]
  have he := zren_at (sz := sz) (sv := sv) (ev := ev) (cl := cl) (ar := ar) hw
  have hkd' := Nat.eq_of_beq_eq_true hkd
  have j31 := zi31 hi31
  have hlt' : i / 8 < c0.2.2.1 := Nat.lt_of_succ_le (Nat.le_of_ble_eq_true hlt)
  unfold zent at he
  rw [if_pos hkd'] at he
  refine va_iald X.1 X.2.1 X.2.2.2.2.2.1 b.1 w 0 he rfl (zin hlt' j31) hd ?_
  rw [nI_clamp j31]
  rw [zgi_eq hok] at kk
  have hx0 : Nat.xor (zg c0.2.2.2 (Nat.div i 8)) 0 = zg c0.2.2.2 (i / 8) := Nat.xor_zero _
  rw [hx0] at kk
  exact kk

theorem gI_zaload (X : zCtx sz sv cl ar D p R s m args c gw cc own nL n0 ns0 r) (hd : decode cc pc = .ok (.baload, 1)) : zGd sz sv ev cl ar D p l e R s m args below meth c Q nL n0 ns0 r pc 1 (zAld zisI 65 0) := by
  intro k j hk' hj L st hp n ns hr
  obtain ⟨i, t, rfl, q1⟩ := zpop_some hr
  clear hr
  obtain ⟨x, t, rfl, hr⟩ := zpop_some q1
  clear q1
  obtain ⟨hi0, hr⟩ := zck_some hr
  obtain ⟨hi31, hr⟩ := zck_some hr
  obtain ⟨hx, hr⟩ := zck_some hr
  obtain ⟨w, c0, hw, hid, hr⟩ := zfind_some hr
  obtain ⟨hkd, hr⟩ := zck_some hr
  obtain ⟨hlt, hr⟩ := zck_some hr
  obtain ⟨hok, hr⟩ := zck_some hr
  obtain ⟨h1, h2, h3⟩ := hk' L _ hp n ns hr
  refine ⟨h1, h2, fun ls H locs a b d => ?_⟩
  have kk := h3 ls H locs a b d
  simp only [List.map_cons] at kk ⊢
  rw [zaddr (hp := hp) (i := w) hid (zt_eq hx), zvd_0 (zt_eq hi0)]
  have he := zren_at (sz := sz) (sv := sv) (ev := ev) (cl := cl) (ar := ar) hw
  have hkd' := Nat.eq_of_beq_eq_true hkd
  have j31 := zi31 hi31
  have hlt' : i / 8 < c0.2.2.1 := Nat.lt_of_succ_le (Nat.le_of_ble_eq_true hlt)
  unfold zent at he
  rw [if_neg (by omega), if_pos hkd'] at he
  refine va_zald X.1 X.2.1 X.2.2.2.2.2.1 b.1 w 1 he rfl (zin hlt' j31) hd ?_
  rw [nI_clamp j31]
  rw [zgi_eq hok] at kk
  have hx0 : Nat.xor (zg c0.2.2.2 (Nat.div i 8)) 0 = zg c0.2.2.2 (i / 8) := Nat.xor_zero _
  rw [hx0] at kk
  exact kk

theorem gI_laload (X : zCtx sz sv cl ar D p R s m args c gw cc own nL n0 ns0 r) (hd : decode cc pc = .ok (.laload, 1)) : zGd sz sv ev cl ar D p l e R s m args below meth c Q nL n0 ns0 r pc 1 (zAld (fun v => zt v 4) 66 4) := by
  intro k j hk' hj L st hp n ns hr
  obtain ⟨i, t, rfl, q1⟩ := zpop_some hr
  clear hr
  obtain ⟨x, t, rfl, hr⟩ := zpop_some q1
  clear q1
  obtain ⟨hi0, hr⟩ := zck_some hr
  obtain ⟨hi31, hr⟩ := zck_some hr
  obtain ⟨hx, hr⟩ := zck_some hr
  obtain ⟨w, c0, hw, hid, hr⟩ := zfind_some hr
  obtain ⟨hkd, hr⟩ := zck_some hr
  obtain ⟨hlt, hr⟩ := zck_some hr
  obtain ⟨hok, hr⟩ := zck_some hr
  obtain ⟨h1, h2, h3⟩ := hk' L _ hp n ns hr
  refine ⟨h1, h2, fun ls H locs a b d => ?_⟩
  have kk := h3 ls H locs a b d
  simp only [List.map_cons] at kk ⊢
  rw [zaddr (hp := hp) (i := w) hid (zt_eq hx), zvd_0 (zt_eq hi0)]
  have he := zren_at (sz := sz) (sv := sv) (ev := ev) (cl := cl) (ar := ar) hw
  have hkd' := Nat.eq_of_beq_eq_true hkd
  have j31 := zi31 hi31
  have hlt' : i / 8 < c0.2.2.1 := Nat.lt_of_succ_le (Nat.le_of_ble_eq_true hlt)
  unfold zent at he
  rw [if_neg (by omega), if_neg (by omega), if_pos hkd'] at he
  refine va_lald X.1 X.2.1 X.2.2.2.2.2.1 b.1 w 2 he rfl (zin hlt' j31) hd ?_
  rw [nI_clamp j31]
  rw [zgl_eq hok] at kk
  exact kk

theorem gI_aaload (hs : zSv sv) (X : zCtx sz sv cl ar D p R s m args c gw cc own nL n0 ns0 r) (hd : decode cc pc = .ok (.aaload, 1)) : zGd sz sv ev cl ar D p l e R s m args below meth c Q nL n0 ns0 r pc 1 (zAld zisA 68 3) := by
  intro k j hk' hj L st hp n ns hr
  obtain ⟨i, t, rfl, q1⟩ := zpop_some hr
  clear hr
  obtain ⟨x, t, rfl, hr⟩ := zpop_some q1
  clear q1
  obtain ⟨hi0, hr⟩ := zck_some hr
  obtain ⟨hi31, hr⟩ := zck_some hr
  obtain ⟨hx, hr⟩ := zck_some hr
  obtain ⟨w, c0, hw, hid, hr⟩ := zfind_some hr
  obtain ⟨hkd, hr⟩ := zck_some hr
  obtain ⟨hlt, hr⟩ := zck_some hr
  obtain ⟨hok, hr⟩ := zck_some hr
  obtain ⟨h1, h2, h3⟩ := hk' L _ hp n ns hr
  refine ⟨h1, h2, fun ls H locs a b d => ?_⟩
  have kk := h3 ls H locs a b d
  simp only [List.map_cons] at kk ⊢
  rw [zaddr (hp := hp) (i := w) hid (zt_eq hx), zvd_0 (zt_eq hi0)]
  have he := zren_at (sz := sz) (sv := sv) (ev := ev) (cl := cl) (ar := ar) hw
  have hkd' := Nat.eq_of_beq_eq_true hkd
  have j31 := zi31 hi31
  have hlt' : i / 8 < c0.2.2.1 := Nat.lt_of_succ_le (Nat.le_of_ble_eq_true hlt)
  unfold zent at he
  rw [if_neg (by omega), if_neg (by omega), if_neg (by omega), if_neg (by omega), if_pos hkd'] at he
  refine va_aldq X.1 X.2.1 X.2.2.2.2.2.1 b.1 w 4 he rfl (zin hlt' j31) hd ?_
  rw [nI_clamp j31]
  rw [zgr_eq hs hok] at kk
  exact kk

theorem gI_iastore (X : zCtx sz sv cl ar D p R s m args c gw cc own nL n0 ns0 r) (hd : decode cc pc = .ok (.iastore, 1)) : zGd sz sv ev cl ar D p l e R s m args below meth c Q nL n0 ns0 r pc 1 (zAst zisI 64 0) := by
  intro k j hk' hj L st hp n ns hr
  obtain ⟨v, t, rfl, q1⟩ := zpop_some hr
  clear hr
  obtain ⟨i, t, rfl, q2⟩ := zpop_some q1
  clear q1
  obtain ⟨x, t, rfl, hr⟩ := zpop_some q2
  clear q2
  obtain ⟨hok, hr⟩ := zck_some hr
  obtain ⟨hv72, hr⟩ := zck_some hr
  obtain ⟨hi0, hr⟩ := zck_some hr
  obtain ⟨hi31, hr⟩ := zck_some hr
  obtain ⟨hx, hr⟩ := zck_some hr
  obtain ⟨w, c0, hw, hid, hck, hr⟩ := zupd_some hr
  have hkd : c0.2.1 = 64 := by
    cases hb : Nat.beq c0.2.1 64 with
    | true => exact Nat.eq_of_beq_eq_true hb
    | false => rw [hb] at hck; cases hck
  have hkb : Nat.beq c0.2.1 64 = true := by rw [hkd]; rfl
  rw [hkb] at hck
  have hlt' : i / 8 < c0.2.2.1 := Nat.lt_of_succ_le (Nat.le_of_ble_eq_true hck)
  have hv : Nat.xor v 0 < 2 ^ 72 := Nat.lt_of_lt_of_le (Nat.lt_of_succ_le (Nat.le_of_ble_eq_true hv72)) (by decide)
  have j31 := zi31 hi31
  obtain ⟨h1, h2, h3⟩ := hk' L t _ n ns hr
  refine ⟨h1, h2, fun ls H locs a b d => ?_⟩
  simp only [List.map_cons]
  have he := zren_at (sz := sz) (sv := sv) (ev := ev) (cl := cl) (ar := ar) hw
  rw [zaddr (hp := hp) (i := w) hid (zt_eq hx), zvd_0 (zt_eq hi0)]
  unfold zent at he
  rw [if_pos hkd] at he
  rw [zgi_eq hok]
  refine W.iast X.1 X.2.1 (b.1 w _ he) ((X.2.2.2.2.2.1.2 0 _ rfl).1 c0.2.2.1 (fun j => .int (zgi sz sv ev (zg c0.2.2.2 j)))) (fun q => by cases q) (by show ¬ (_ ∨ (arrV _ _ _).slots.size ≤ _); rw [arrV_size]; exact zin hlt' j31) rfl rfl hd fun H1 e z oq => ?_
  refine h3 ls H1 _ a (zInv_set b hw rfl ?_ z oq) d
  unfold zent
  rw [if_pos (by exact hkd)]
  show H1[sz + c0.1]? = some (vp_cell _ _)
  rw [e]
  show some ((vp_cell _ _).setSlot _ _) = some (vp_cell _ _)
  rw [vp_cell_i, vp_cell_i, arrV_store]
  congr 2
  funext q
  show updV _ _ _ q = Value.int (zgi sz sv ev (zg (zs c0.2.2.2 (i / 8) (Nat.xor v 0)) q))
  rw [nI_clamp j31, zg_zs _ _ _ _ hv]
  unfold updV
  by_cases hq : q = i / 8
  · rw [if_pos hq, if_pos (by exact hq)]
    rw [show Nat.xor v 0 = v from Nat.xor_zero v]
  · rw [if_neg hq, if_neg (by exact hq)]

theorem gI_zastore (X : zCtx sz sv cl ar D p R s m args c gw cc own nL n0 ns0 r) (hd : decode cc pc = .ok (.bastore, 1)) : zGd sz sv ev cl ar D p l e R s m args below meth c Q nL n0 ns0 r pc 1 (zAst (fun v => cond (Nat.beq v 0) true (Nat.beq v 8)) 65 0) := by
  intro k j hk' hj L st hp n ns hr
  obtain ⟨v, t, rfl, q1⟩ := zpop_some hr
  clear hr
  obtain ⟨i, t, rfl, q2⟩ := zpop_some q1
  clear q1
  obtain ⟨x, t, rfl, hr⟩ := zpop_some q2
  clear q2
  obtain ⟨hok, hr⟩ := zck_some hr
  obtain ⟨hv72, hr⟩ := zck_some hr
  obtain ⟨hi0, hr⟩ := zck_some hr
  obtain ⟨hi31, hr⟩ := zck_some hr
  obtain ⟨hx, hr⟩ := zck_some hr
  obtain ⟨w, c0, hw, hid, hck, hr⟩ := zupd_some hr
  have hkd : c0.2.1 = 65 := by
    cases hb : Nat.beq c0.2.1 65 with
    | true => exact Nat.eq_of_beq_eq_true hb
    | false => rw [hb] at hck; cases hck
  have hkb : Nat.beq c0.2.1 65 = true := by rw [hkd]; rfl
  rw [hkb] at hck
  have hlt' : i / 8 < c0.2.2.1 := Nat.lt_of_succ_le (Nat.le_of_ble_eq_true hck)
  have hv : Nat.xor v 0 < 2 ^ 72 := Nat.lt_of_lt_of_le (Nat.lt_of_succ_le (Nat.le_of_ble_eq_true hv72)) (by decide)
  have j31 := zi31 hi31
  obtain ⟨h1, h2, h3⟩ := hk' L t _ n ns hr
  refine ⟨h1, h2, fun ls H locs a b d => ?_⟩
  simp only [List.map_cons]
  have he := zren_at (sz := sz) (sv := sv) (ev := ev) (cl := cl) (ar := ar) hw
  rw [zaddr (hp := hp) (i := w) hid (zt_eq hx), zvd_0 (zt_eq hi0)]
  unfold zent at he
  rw [if_neg (by omega), if_pos hkd] at he
  have hv01 : (v = 0 ∨ v = 8) := by
    have hok : cond (Nat.beq v 0) true (Nat.beq v 8) = true := hok
    cases hb : Nat.beq v 0 with
    | true => exact Or.inl (Nat.eq_of_beq_eq_true hb)
    | false => rw [hb] at hok; exact Or.inr (Nat.eq_of_beq_eq_true hok)
  have hvi : zvd sz sv ev v = .int (zgi sz sv ev v) := zgi_eq (by rcases hv01 with e | e <;> rw [e] <;> rfl)
  have hnar : narrow .boolean (.int (zgi sz sv ev v)) = .int (zgi sz sv ev v) := by
    rw [← hvi]; rcases hv01 with e | e <;> rw [e, zvd_0 (by decide)] <;> rfl
  rw [hvi]
  refine W.zast X.1 X.2.1 (b.1 w _ he) ((X.2.2.2.2.2.1.2 1 _ rfl).1 c0.2.2.1 (fun j => .int (zgi sz sv ev (zg c0.2.2.2 j)))) (fun q => by cases q) (by show ¬ (_ ∨ (arrV _ _ _).slots.size ≤ _); rw [arrV_size]; exact zin hlt' j31) rfl rfl hd fun H1 e z oq => ?_
  rw [hnar] at e
  refine h3 ls H1 _ a (zInv_set b hw rfl ?_ z oq) d
  unfold zent
  rw [if_neg (by show c0.2.1 ≠ 64; omega), if_pos (by exact hkd)]
  show H1[sz + c0.1]? = some (vp_cell _ _)
  rw [e]
  show some ((vp_cell _ _).setSlot _ _) = some (vp_cell _ _)
  rw [vp_cell_i, vp_cell_i, arrV_store]
  congr 2
  funext q
  show updV _ _ _ q = Value.int (zgi sz sv ev (zg (zs c0.2.2.2 (i / 8) (Nat.xor v 0)) q))
  rw [nI_clamp j31, zg_zs _ _ _ _ hv]
  unfold updV
  by_cases hq : q = i / 8
  · rw [if_pos hq, if_pos (by exact hq)]
    rw [show Nat.xor v 0 = v from Nat.xor_zero v]
  · rw [if_neg hq, if_neg (by exact hq)]

theorem gI_lastore (X : zCtx sz sv cl ar D p R s m args c gw cc own nL n0 ns0 r) (hd : decode cc pc = .ok (.lastore, 1)) : zGd sz sv ev cl ar D p l e R s m args below meth c Q nL n0 ns0 r pc 1 (zAst (fun v => zt v 4) 66 4) := by
  intro k j hk' hj L st hp n ns hr
  obtain ⟨v, t, rfl, q1⟩ := zpop_some hr
  clear hr
  obtain ⟨i, t, rfl, q2⟩ := zpop_some q1
  clear q1
  obtain ⟨x, t, rfl, hr⟩ := zpop_some q2
  clear q2
  obtain ⟨hok, hr⟩ := zck_some hr
  obtain ⟨hv72, hr⟩ := zck_some hr
  obtain ⟨hi0, hr⟩ := zck_some hr
  obtain ⟨hi31, hr⟩ := zck_some hr
  obtain ⟨hx, hr⟩ := zck_some hr
  obtain ⟨w, c0, hw, hid, hck, hr⟩ := zupd_some hr
  have hkd : c0.2.1 = 66 := by
    cases hb : Nat.beq c0.2.1 66 with
    | true => exact Nat.eq_of_beq_eq_true hb
    | false => rw [hb] at hck; cases hck
  have hkb : Nat.beq c0.2.1 66 = true := by rw [hkd]; rfl
  rw [hkb] at hck
  have hlt' : i / 8 < c0.2.2.1 := Nat.lt_of_succ_le (Nat.le_of_ble_eq_true hck)
  have hv : Nat.xor v 4 < 2 ^ 72 := Nat.lt_of_lt_of_le (Nat.lt_of_succ_le (Nat.le_of_ble_eq_true hv72)) (by decide)
  have j31 := zi31 hi31
  obtain ⟨h1, h2, h3⟩ := hk' L t _ n ns hr
  refine ⟨h1, h2, fun ls H locs a b d => ?_⟩
  simp only [List.map_cons]
  have he := zren_at (sz := sz) (sv := sv) (ev := ev) (cl := cl) (ar := ar) hw
  rw [zaddr (hp := hp) (i := w) hid (zt_eq hx), zvd_0 (zt_eq hi0)]
  unfold zent at he
  rw [if_neg (by omega), if_neg (by omega), if_pos hkd] at he
  rw [zgl_eq hok]
  refine W.last X.1 X.2.1 (b.1 w _ he) ((X.2.2.2.2.2.1.2 2 _ rfl).1 c0.2.2.1 (fun j => .long (zgl sz sv ev (Nat.xor (zg c0.2.2.2 j) 4)))) (fun q => by cases q) (by show ¬ (_ ∨ (arrV _ _ _).slots.size ≤ _); rw [arrV_size]; exact zin hlt' j31) rfl rfl hd fun H1 e z oq => ?_
  refine h3 ls H1 _ a (zInv_set b hw rfl ?_ z oq) d
  unfold zent
  rw [if_neg (by show c0.2.1 ≠ 64; omega), if_neg (by show c0.2.1 ≠ 65; omega), if_pos (by exact hkd)]
  show H1[sz + c0.1]? = some (vp_cell _ _)
  rw [e]
  show some ((vp_cell _ _).setSlot _ _) = some (vp_cell _ _)
  rw [vp_cell_l, vp_cell_l, arrV_store]
  congr 2
  funext q
  show updV _ _ _ q = Value.long (zgl sz sv ev (Nat.xor (zg (zs c0.2.2.2 (i / 8) (Nat.xor v 4)) q) 4))
  rw [nI_clamp j31, zg_zs _ _ _ _ hv]
  unfold updV
  by_cases hq : q = i / 8
  · rw [if_pos hq, if_pos (by exact hq)]
    rw [show Nat.xor (Nat.xor v 4) 4 = v from by show (v ^^^ 4) ^^^ 4 = v; rw [Nat.xor_assoc, Nat.xor_self, Nat.xor_zero]]
  · rw [if_neg hq, if_neg (by exact hq)]

end ZB