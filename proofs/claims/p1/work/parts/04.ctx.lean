/-! a frame of the run, and rightness of a continuation in it -/
section ZC
variable (sz : Nat) (sv : Nat → Value) (ev : Nat → Int32) (cl : List vw_C) (ar : zAr) (D : va_G)
/-- the rows' classes -/
abbrev ztys (ar : zAr) : List (ClassId × FieldType) := [(ar.1, .int), (ar.2.1, .boolean), (ar.2.2.1, .long), (ar.2.2.2.1, .double), (ar.2.2.2.2, .object "java/lang/Object")]
def zInv (s : State) (hp : zHp) (n : Nat) (H : Heap) (locs : List Loc) : Prop :=
  va_P D cl (zren sz sv ev cl ar hp) H ∧ zwf n hp ∧ H.size = sz + n ∧ va_S (zA sz) s.heap H locs
variable (p : Program) (l : Launch) (e : Env) (R : Room) (s : State) (m : MethodId) (args : Array Value) (below : List Frame) (meth : Method) (c : Code) (Q : State → Prop)
variable (gw : List Cond) (cc : ByteArray) (own : String) (nL n0 ns0 : Nat) (r : zOut)
/-- what holds of the frame all the time -/
def zCtx : Prop := p.tables.exec = Jvm.exec ∧ c.code = cc ∧ c.maxLocals = nL ∧ s.vm.findClass own = some m.cls ∧ (∀ w ∈ gw, w.before args s = true) ∧ va_K D cl (ztys ar) s ∧
  s.heap.size = sz + n0 ∧ r.2.2.2.1 - n0 ≤ R.cells ∧ r.2.2.2.2 - ns0 ≤ R.slots ∧ (∀ j, (sv j).category = 1)
/-- the evaluator's find from pc on is true of the machine -/
def zSnd (pc : Nat) (k : zK) : Prop := ∀ L st hp n ns, k L st hp n ns = some r → n ≤ r.2.2.2.1 ∧ ns ≤ r.2.2.2.2 ∧
  ∀ ls H locs, zLR sz sv ev nL L ls → zInv sz sv ev cl ar D s hp n H locs → ns0 ≤ ns → W p l e R s m args below meth c H locs (n - n0) (ns - ns0) Q (F0 m pc ls (st.map (zvd sz sv ev)))
def zGd (pc len : Nat) (f : zI) : Prop := ∀ (k : zK) (j : Nat → zK), zSnd sz sv ev cl ar D p l e R s m args below meth c Q nL n0 ns0 r (pc + len) k → (∀ t, zSnd sz sv ev cl ar D p l e R s m args below meth c Q nL n0 ns0 r t (j t)) → zSnd sz sv ev cl ar D p l e R s m args below meth c Q nL n0 ns0 r pc (f k j)
end ZC
section ZI
variable {sz : Nat} {sv : Nat → Value} {ev : Nat → Int32} {cl : List vw_C} {ar : zAr} {D : va_G}
variable {p : Program} {l : Launch} {e : Env} {R : Room} {s : State} {m : MethodId} {args : Array Value} {below : List Frame} {meth : Method} {c : Code} {Q : State → Prop}
variable {gw : List Cond} {cc : ByteArray} {own : String} {nL n0 ns0 : Nat} {r : zOut} {pc : Nat}
theorem gPush (X : zCtx sz sv cl ar D p R s m args c gw cc own nL n0 ns0 r) {len v : Nat}
    (h : ∀ ls H locs cells slots st, W p l e R s m args below meth c H locs cells slots Q (F0 m (pc + len) ls (zvd sz sv ev v :: st)) → W p l e R s m args below meth c H locs cells slots Q (F0 m pc ls st)) :
    zGd sz sv ev cl ar D p l e R s m args below meth c Q nL n0 ns0 r pc len (zPush v) := by
  intro k j hk hj L st hp n ns hr
  obtain ⟨h1, h2, h3⟩ := hk L (v :: st) hp n ns hr
  exact ⟨h1, h2, fun ls H locs a b d => h ls H locs _ _ _ (h3 ls H locs a b d)⟩
theorem gI_iconst (X : zCtx sz sv cl ar D p R s m args c gw cc own nL n0 ns0 r) {i : Int} {v : Nat} (hd : decode cc pc = .ok (.iconst i, 1)) (hv : v % 8 = 0) (he : Int32.ofInt i = nI (v / 8)) : zGd sz sv ev cl ar D p l e R s m args below meth c Q nL n0 ns0 r pc 1 (zPush v) :=
  gPush X fun ls H locs cells slots st k => lv_iconst X.1 X.2.1 hd he (by rw [zvd_0 hv] at k; exact k)
theorem gI_bipush (X : zCtx sz sv cl ar D p R s m args c gw cc own nL n0 ns0 r) {i : Int} {v : Nat} (hd : decode cc pc = .ok (.bipush i, 2)) (hv : v % 8 = 0) (he : (Int8.ofInt i).toInt32 = nI (v / 8)) : zGd sz sv ev cl ar D p l e R s m args below meth c Q nL n0 ns0 r pc 2 (zPush v) :=
  gPush X fun ls H locs cells slots st k => lv_bipush X.1 X.2.1 hd he (by rw [zvd_0 hv] at k; exact k)
theorem gI_sipush (X : zCtx sz sv cl ar D p R s m args c gw cc own nL n0 ns0 r) {i : Int} {v : Nat} (hd : decode cc pc = .ok (.sipush i, 3)) (hv : v % 8 = 0) (he : (Int16.ofInt i).toInt32 = nI (v / 8)) : zGd sz sv ev cl ar D p l e R s m args below meth c Q nL n0 ns0 r pc 3 (zPush v) :=
  gPush X fun ls H locs cells slots st k => lv_sipush X.1 X.2.1 hd he (by rw [zvd_0 hv] at k; exact k)
theorem gI_null (X : zCtx sz sv cl ar D p R s m args c gw cc own nL n0 ns0 r) (hd : decode cc pc = .ok (.aconst_null, 1)) : zGd sz sv ev cl ar D p l e R s m args below meth c Q nL n0 ns0 r pc 1 (zPush 3) :=
  gPush X fun ls H locs cells slots st k => lv_null X.1 X.2.1 hd (by rw [zvd_3 rfl] at k; exact k)
theorem gLd (X : zCtx sz sv cl ar D p R s m args c gw cc own nL n0 ns0 r) {ok : Nat → Bool} {len i : Nat}
    (h : ∀ ls H locs cells slots st v, ok v = true → ls[i]? = some (.val (zvd sz sv ev v)) → W p l e R s m args below meth c H locs cells slots Q (F0 m (pc + len) ls (zvd sz sv ev v :: st)) → W p l e R s m args below meth c H locs cells slots Q (F0 m pc ls st)) :
    zGd sz sv ev cl ar D p l e R s m args below meth c Q nL n0 ns0 r pc len (zLd ok i) := by
  intro k j hk hj L st hp n ns hr
  obtain ⟨hb, hr⟩ := zck_some hr
  obtain ⟨ho, hr⟩ := zck_some hr
  obtain ⟨h1, h2, h3⟩ := hk L _ hp n ns hr
  have hb' : 1 ≤ zg L i := Nat.le_of_ble_eq_true hb
  exact ⟨h1, h2, fun ls H locs a b d => h ls H locs _ _ _ _ ho (a.2.2 i (by omega)) (h3 ls H locs a b d)⟩
theorem gI_iload_n (X : zCtx sz sv cl ar D p R s m args c gw cc own nL n0 ns0 r) {k : Fin 4} {i : Nat} (hd : decode cc pc = .ok (.iload_n k, 1)) (hi : (k : Nat) = i) : zGd sz sv ev cl ar D p l e R s m args below meth c Q nL n0 ns0 r pc 1 (zLdI i) :=
  gLd X fun ls H locs cells slots st v ho hl kk => by
    obtain ⟨x, hx⟩ := zI_int (sz := sz) (sv := sv) (ev := ev) ho
    rw [hx] at hl kk
    exact lv_iload_n X.1 X.2.1 hd hi hl kk
theorem gI_iload (X : zCtx sz sv cl ar D p R s m args c gw cc own nL n0 ns0 r) {i : Nat} (hd : decode cc pc = .ok (.iload i, 2)) : zGd sz sv ev cl ar D p l e R s m args below meth c Q nL n0 ns0 r pc 2 (zLdI i) :=
  gLd X fun ls H locs cells slots st v ho hl kk => by
    obtain ⟨x, hx⟩ := zI_int (sz := sz) (sv := sv) (ev := ev) ho
    rw [hx] at hl kk
    exact lv_iload X.1 X.2.1 hd hl kk
theorem gI_lload_n (X : zCtx sz sv cl ar D p R s m args c gw cc own nL n0 ns0 r) {k : Fin 4} {i : Nat} (hd : decode cc pc = .ok (.lload_n k, 1)) (hi : (k : Nat) = i) : zGd sz sv ev cl ar D p l e R s m args below meth c Q nL n0 ns0 r pc 1 (zLdL i) :=
  gLd X fun ls H locs cells slots st v ho hl kk => by
    rw [zvd_4 (zt_eq ho)] at hl kk
    exact lv_lload_n X.1 X.2.1 hd hi hl kk
theorem gI_lload (X : zCtx sz sv cl ar D p R s m args c gw cc own nL n0 ns0 r) {i : Nat} (hd : decode cc pc = .ok (.lload i, 2)) : zGd sz sv ev cl ar D p l e R s m args below meth c Q nL n0 ns0 r pc 2 (zLdL i) :=
  gLd X fun ls H locs cells slots st v ho hl kk => by
    rw [zvd_4 (zt_eq ho)] at hl kk
    exact lv_lload X.1 X.2.1 hd hl kk
/-- what was there is a cell or null -/
def zSv (sv : Nat → Value) : Prop := ∀ j, sv j = .null ∨ ∃ a, sv j = .ref a
theorem zSv.cat {sv : Nat → Value} (h : zSv sv) (j : Nat) : (sv j).category = 1 := by rcases h j with e | ⟨a, e⟩ <;> rw [e] <;> rfl
theorem zA_ref {sv : Nat → Value} (hs : zSv sv) {v : Nat} (h : zisA v = true) : zvd sz sv ev v = .null ∨ ∃ a, zvd sz sv ev v = .ref a := by
  rcases zisA_eq h with h | h | h
  · exact Or.inr ⟨_, zvd_1 h⟩
  · rw [zvd_2 h]; exact hs _
  · exact Or.inl (zvd_3 h)
theorem gI_aload_n (hs : zSv sv) (X : zCtx sz sv cl ar D p R s m args c gw cc own nL n0 ns0 r) {k : Fin 4} {i : Nat} (hd : decode cc pc = .ok (.aload_n k, 1)) (hi : (k : Nat) = i) : zGd sz sv ev cl ar D p l e R s m args below meth c Q nL n0 ns0 r pc 1 (zLdA i) :=
  gLd X fun ls H locs cells slots st v ho hl kk => by
    rcases zA_ref (sz := sz) (ev := ev) hs ho with hx | ⟨a, hx⟩ <;> rw [hx] at hl kk
    · exact lv_aload_nN X.1 X.2.1 hd hi hl kk
    · exact lv_aload_n X.1 X.2.1 hd hi hl kk
theorem gI_aload (hs : zSv sv) (X : zCtx sz sv cl ar D p R s m args c gw cc own nL n0 ns0 r) {i : Nat} (hd : decode cc pc = .ok (.aload i, 2)) : zGd sz sv ev cl ar D p l e R s m args below meth c Q nL n0 ns0 r pc 2 (zLdA i) :=
  gLd X fun ls H locs cells slots st v ho hl kk => by
    rcases zA_ref (sz := sz) (ev := ev) hs ho with hx | ⟨a, hx⟩ <;> rw [hx] at hl kk
    · exact lv_aloadN X.1 X.2.1 hd hl kk
    · exact lv_aload X.1 X.2.1 hd hl kk
theorem gSt (hs : zSv sv) (X : zCtx sz sv cl ar D p R s m args c gw cc own nL n0 ns0 r) {ok : Nat → Bool} {len i : Nat}
    (h : ∀ ls H locs cells slots st L v, ok v = true → i < nL → lv_has ls nL (zlist sz sv ev nL L) → (∀ ls', lv_has ls' nL ((i, zvd sz sv ev v) :: (zlist sz sv ev nL L).filter (fun q => !(q.1 == i) && !(q.1 + 1 == i && q.2.category == 2))) → W p l e R s m args below meth c H locs cells slots Q (F0 m (pc + len) ls' st)) → W p l e R s m args below meth c H locs cells slots Q (F0 m pc ls (zvd sz sv ev v :: st))) :
    zGd sz sv ev cl ar D p l e R s m args below meth c Q nL n0 ns0 r pc len (zSt ok nL i) := by
  intro k j hk hj L st hp n ns hr
  obtain ⟨v, t, rfl, hr⟩ := zpop_some hr
  obtain ⟨ho, hr⟩ := zck_some hr
  obtain ⟨hv, hr⟩ := zck_some hr
  obtain ⟨hi, hr⟩ := zck_some hr
  obtain ⟨hn, hr⟩ := zck_some hr
  obtain ⟨h1, h2, h3⟩ := hk _ _ hp n ns hr
  have hv' : v + 1 < 2 ^ 72 := by
    have : v + 1 ≤ 4722366482869645213695 := Nat.le_of_ble_eq_true hv
    exact Nat.lt_of_le_of_lt this (by decide)
  exact ⟨h1, h2, fun ls H locs a b d => h ls H locs _ _ _ L v ho (Nat.le_of_ble_eq_true hi) (zLR_has a) fun ls' hl' => h3 ls' H locs (zLR_st hs.cat a hv' hn hl') b d⟩
theorem gI_istore_n (hs : zSv sv) (X : zCtx sz sv cl ar D p R s m args c gw cc own nL n0 ns0 r) {k : Fin 4} {i : Nat} (hd : decode cc pc = .ok (.istore_n k, 1)) (hi : (k : Nat) = i) : zGd sz sv ev cl ar D p l e R s m args below meth c Q nL n0 ns0 r pc 1 (zStI nL i) :=
  gSt hs X fun ls H locs cells slots st L v ho hn hl kk => by
    obtain ⟨x, hx⟩ := zI_int (sz := sz) (sv := sv) (ev := ev) ho
    rw [hx] at kk ⊢
    exact lv_istore_n X.1 X.2.1 hd hi hl hn rfl kk
theorem gI_istore (hs : zSv sv) (X : zCtx sz sv cl ar D p R s m args c gw cc own nL n0 ns0 r) {i : Nat} (hd : decode cc pc = .ok (.istore i, 2)) : zGd sz sv ev cl ar D p l e R s m args below meth c Q nL n0 ns0 r pc 2 (zStI nL i) :=
  gSt hs X fun ls H locs cells slots st L v ho hn hl kk => by
    obtain ⟨x, hx⟩ := zI_int (sz := sz) (sv := sv) (ev := ev) ho
    rw [hx] at kk ⊢
    exact lv_istore X.1 X.2.1 hd hl hn rfl kk
theorem gI_astore_n (hs : zSv sv) (X : zCtx sz sv cl ar D p R s m args c gw cc own nL n0 ns0 r) {k : Fin 4} {i : Nat} (hd : decode cc pc = .ok (.astore_n k, 1)) (hi : (k : Nat) = i) : zGd sz sv ev cl ar D p l e R s m args below meth c Q nL n0 ns0 r pc 1 (zStA nL i) :=
  gSt hs X fun ls H locs cells slots st L v ho hn hl kk => by
    rcases zA_ref (sz := sz) (ev := ev) hs ho with hx | ⟨a, hx⟩ <;> rw [hx] at kk ⊢
    · exact lv_astore_nN X.1 X.2.1 hd hi hl hn rfl kk
    · exact lv_astore_n X.1 X.2.1 hd hi hl hn rfl kk
theorem gI_astore (hs : zSv sv) (X : zCtx sz sv cl ar D p R s m args c gw cc own nL n0 ns0 r) {i : Nat} (hd : decode cc pc = .ok (.astore i, 2)) : zGd sz sv ev cl ar D p l e R s m args below meth c Q nL n0 ns0 r pc 2 (zStA nL i) :=
  gSt hs X fun ls H locs cells slots st L v ho hn hl kk => by
    rcases zA_ref (sz := sz) (ev := ev) hs ho with hx | ⟨a, hx⟩ <;> rw [hx] at kk ⊢
    · exact lv_astoreN X.1 X.2.1 hd hl hn rfl kk
    · exact lv_astore X.1 X.2.1 hd hl hn rfl kk
theorem gI_fstore (hs : zSv sv) (X : zCtx sz sv cl ar D p R s m args c gw cc own nL n0 ns0 r) {i : Nat} (hd : decode cc pc = .ok (.fstore i, 2)) : zGd sz sv ev cl ar D p l e R s m args below meth c Q nL n0 ns0 r pc 2 (zStF nL i) :=
  gSt hs X fun ls H locs cells slots st L v ho hn hl kk => by
    rw [zvd_5 (zt_eq ho)] at kk ⊢
    exact lv_fstore X.1 X.2.1 hd hl hn rfl kk
theorem gSt2 (hs : zSv sv) (X : zCtx sz sv cl ar D p R s m args c gw cc own nL n0 ns0 r) {ok : Nat → Bool} {len i : Nat}
    (h : ∀ ls H locs cells slots st L v, ok v = true → i + 1 < nL → lv_has ls nL (zlist sz sv ev nL L) → (∀ ls', lv_has ls' nL ((i, zvd sz sv ev v) :: (zlist sz sv ev nL L).filter (fun q => !(q.1 == i) && (!(q.1 == i + 1) && !(q.1 + 1 == i && q.2.category == 2)))) → W p l e R s m args below meth c H locs cells slots Q (F0 m (pc + len) ls' st)) → W p l e R s m args below meth c H locs cells slots Q (F0 m pc ls (zvd sz sv ev v :: st))) :
    zGd sz sv ev cl ar D p l e R s m args below meth c Q nL n0 ns0 r pc len (zSt2 ok nL i) := by
  intro k j hk hj L st hp n ns hr
  obtain ⟨v, t, rfl, hr⟩ := zpop_some hr
  obtain ⟨ho, hr⟩ := zck_some hr
  obtain ⟨hv, hr⟩ := zck_some hr
  obtain ⟨hi, hr⟩ := zck_some hr
  obtain ⟨hn, hr⟩ := zck_some hr
  obtain ⟨h1, h2, h3⟩ := hk _ _ hp n ns hr
  have hv' : v + 1 < 2 ^ 72 := by
    have : v + 1 ≤ 4722366482869645213695 := Nat.le_of_ble_eq_true hv
    exact Nat.lt_of_le_of_lt this (by decide)
  exact ⟨h1, h2, fun ls H locs a b d => h ls H locs _ _ _ L v ho (Nat.le_of_ble_eq_true hi) (zLR_has a) fun ls' hl' => h3 ls' H locs (zLR_st2 hs.cat a hv' hn hl') b d⟩
theorem gI_lstore_n (hs : zSv sv) (X : zCtx sz sv cl ar D p R s m args c gw cc own nL n0 ns0 r) {k : Fin 4} {i : Nat} (hd : decode cc pc = .ok (.lstore_n k, 1)) (hi : (k : Nat) = i) : zGd sz sv ev cl ar D p l e R s m args below meth c Q nL n0 ns0 r pc 1 (zStL nL i) :=
  gSt2 hs X fun ls H locs cells slots st L v ho hn hl kk => by
    rw [zvd_4 (zt_eq ho)] at kk ⊢
    exact lv_lstore_n X.1 X.2.1 hd hi hl hn rfl kk
theorem gI_lstore (hs : zSv sv) (X : zCtx sz sv cl ar D p R s m args c gw cc own nL n0 ns0 r) {i : Nat} (hd : decode cc pc = .ok (.lstore i, 2)) : zGd sz sv ev cl ar D p l e R s m args below meth c Q nL n0 ns0 r pc 2 (zStL nL i) :=
  gSt2 hs X fun ls H locs cells slots st L v ho hn hl kk => by
    rw [zvd_4 (zt_eq ho)] at kk ⊢
    exact lv_lstore X.1 X.2.1 hd hl hn rfl kk
theorem gI_dstore (hs : zSv sv) (X : zCtx sz sv cl ar D p R s m args c gw cc own nL n0 ns0 r) {i : Nat} (hd : decode cc pc = .ok (.dstore i, 2)) : zGd sz sv ev cl ar D p l e R s m args below meth c Q nL n0 ns0 r pc 2 (zStD nL i) :=
  gSt2 hs X fun ls H locs cells slots st L v ho hn hl kk => by
    rw [zvd_6 (zt_eq ho)] at kk ⊢
    exact lv_dstore X.1 X.2.1 hd hl hn rfl kk
end ZI
