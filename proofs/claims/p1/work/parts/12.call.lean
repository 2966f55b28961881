/-! calls: a method's contract says what the evaluator finds of it -/
/-- methods by number: name, code, locals, answer's type -/
abbrev zMt : Type := Nat → MethodName × ByteArray × Nat × Option FieldType
abbrev zCal : Type := Nat → List Nat → zHp → Nat → Nat → zR
def zrm (d mc ms : Nat) : Room := { frames := d + 10, cells := mc, slots := ms, locals := 64 * d + 200 }
section ZM
variable (sz : Nat) (sv : Nat → Value) (ev : Nat → Int32) (cl : List vw_C) (ar : zAr) (D : va_G) (G : State → Prop) (ex : Nat → String)
def zPc (avs : List Nat) (hp : zHp) (n : Nat) : Array Value → State → Prop := fun a U => a = (avs.map (zvd sz sv ev)).toArray ∧ G U ∧ va_P D cl (zren sz sv ev cl ar hp) U.heap ∧ zwf n hp ∧ U.heap.size = sz + n
def zXC (r : zOut) : String → State → State → Prop := fun E st t => E = ex r.2.1 ∧ zPost sz sv ev cl ar D r st t
def zCon (l : Launch) (gw : List Cond) (mt : zMt) (d i : Nat) (avs : List Nat) (hp : zHp) (n ns : Nat) (r : zOut) : Prop :=
  if r.1 = 2 then vx_Met l (mt i).1 (Cond.code (mt i).1 (mt i).2.1 (mt i).2.2.1 (mt i).2.2.2 :: gw) (zrm d (r.2.2.2.1 - n) (r.2.2.2.2 - ns)) (zPc sz sv ev cl ar D G avs hp n) (fun _ _ _ _ => False) (zXC sz sv ev cl ar D ex r) (r.2.2.2.1 - n) (r.2.2.2.2 - ns) (zA sz)
  else Met l (mt i).1 (Cond.code (mt i).1 (mt i).2.1 (mt i).2.2.1 (mt i).2.2.2 :: gw) (zrm d (r.2.2.2.1 - n) (r.2.2.2.2 - ns)) (zPc sz sv ev cl ar D G avs hp n) (zQc sz sv ev cl ar D r) (r.2.2.2.1 - n) (r.2.2.2.2 - ns) (zA sz)
def zCok (l : Launch) (gw : List Cond) (mt : zMt) (d : Nat) (cal : zCal) : Prop := ∀ i avs hp n ns r, cal i avs hp n ns = some r → n ≤ r.2.2.2.1 ∧ ns ≤ r.2.2.2.2 ∧ zCon sz sv ev cl ar D G ex l gw mt d i avs hp n ns r
/-- the state's own facts stay while the tables warm and what was there stays -/
def zGm : Prop := ∀ s U : State, G s → s.WarmedH U.vm → (∀ q : Nat, q < sz → U.heap[q]? = s.heap[q]?) → G U
end ZM
/-- what a call's outcome does -/
noncomputable def zout (o : zOut) (k0 : zR) (k1 : zR) (k2 : zR) : zR := Nat.rec (motive := fun _ => zR) k0 (fun m _ => Nat.rec (motive := fun _ => zR) k1 (fun m _ => Nat.rec (motive := fun _ => zR) k2 (fun _ _ => none) m) m) o.1
theorem zout_some {o : zOut} {k0 k1 k2 : zR} {r : zOut} (h : zout o k0 k1 k2 = some r) : (o.1 = 0 ∧ k0 = some r) ∨ (o.1 = 1 ∧ k1 = some r) ∨ (o.1 = 2 ∧ k2 = some r) := by
  obtain ⟨a, b⟩ := o
  match a, h with
  | 0, h => exact Or.inl ⟨rfl, h⟩
  | 1, h => exact Or.inr (Or.inl ⟨rfl, h⟩)
  | 2, h => exact Or.inr (Or.inr ⟨rfl, h⟩)
  | n + 3, h => cases h
noncomputable def zbind (x : zR) (k : zOut → zR) : zR := Option.rec (motive := fun _ => zR) none (fun o => k o) x
theorem zbind_some {x : zR} {k : zOut → zR} {r : zOut} (h : zbind x k = some r) : ∃ o, x = some o ∧ k o = some r := by
  cases x with
  | none => cases h
  | some o => exact ⟨o, rfl, h⟩
/-- so many values off the stack, the last pushed first -/
noncomputable def ztake (na : Nat) : List Nat → List Nat → (List Nat → List Nat → zR) → zR := Nat.rec (motive := fun _ => List Nat → List Nat → (List Nat → List Nat → zR) → zR) (fun st acc k => k acc st) (fun _ ih st acc k => zpop st fun v t => ih t (v :: acc) k) na
theorem ztake_some {k : List Nat → List Nat → zR} {r : zOut} : ∀ {na : Nat} {st acc : List Nat}, ztake na st acc k = some r → ∃ as rest, st = as.reverse ++ rest ∧ as.length = na ∧ k (as ++ acc) rest = some r
  | 0, st, acc, h => ⟨[], st, rfl, rfl, h⟩
  | na + 1, st, acc, h => by
    obtain ⟨v, t, rfl, h'⟩ := zpop_some h
    obtain ⟨as, rest, rfl, h2, h3⟩ := ztake_some (na := na) h'
    exact ⟨as ++ [v], rest, by simp, by simp [h2], by simpa using h3⟩
/-- at most four are left below -/
noncomputable def zfew (rest : List Nat) : Bool := Nat.blt (List.rec (motive := fun _ => Nat) 0 (fun _ _ n => Nat.succ n) rest) 5
theorem zfew_eq {sz : Nat} {sv : Nat → Value} {ev : Nat → Int32} {rest : List Nat} (h : zfew rest = true) : ((rest.map (zvd sz sv ev)).map fun v => v.category).sum ≤ 8 := by
  have hl : ∀ l : List Nat, (List.rec (motive := fun _ => Nat) 0 (fun _ _ n => Nat.succ n) l) = l.length := by
    intro l; induction l with
    | nil => rfl
    | cons a t ih => show Nat.succ _ = _; rw [ih]; rfl
  have h2 : rest.length + 1 ≤ 5 := by
    have := Nat.le_of_ble_eq_true h
    rw [hl] at this; exact this
  have h3 : ∀ l : List Nat, ((l.map (zvd sz sv ev)).map fun v => v.category).sum ≤ 2 * l.length := by
    intro l; induction l with
    | nil => simp
    | cons a t ih =>
      simp only [List.map_cons, List.sum_cons, List.length_cons]
      have : (zvd sz sv ev a).category ≤ 2 := by rcases lv_cat (zvd sz sv ev a) with e | e <;> omega
      omega
  have := h3 rest
  omega
/-- the receiver: a cell of that class, or one of those that were there -/
noncomputable def zrcv (ci : Nat) (js : List Nat) (as : List Nat) (hp : zHp) (k : zR) : zR := zpop as fun b _ => cond (zt b 1) (zfind (Nat.div b 8) hp fun c => zck (Nat.beq c.2.1 ci) k) (zck (zt b 2) (zck (List.rec (motive := fun _ => Bool) false (fun j _ ih => cond (Nat.beq j (Nat.div b 8)) true ih) js) k))
noncomputable def zCall0 (cal : zCal) (i : Nat) (as rest : List Nat) (k : zK) (L : Nat) (hp : zHp) (n ns : Nat) : zR := zbind (cal i as hp n ns) fun o => zout o (k L rest o.2.2.1 o.2.2.2.1 o.2.2.2.2) (k L (o.2.1 :: rest) o.2.2.1 o.2.2.2.1 o.2.2.2.2) (some o)
noncomputable def zCall (cal : zCal) (i na : Nat) : zI := fun k _ L st hp n ns => ztake na st [] fun as rest => zck (zfew rest) (zCall0 cal i as rest k L hp n ns)
noncomputable def zCallV (cal : zCal) (ci : Nat) (js : List Nat) (i na : Nat) : zI := fun k _ L st hp n ns => ztake na st [] fun as rest => zck (zfew rest) (zrcv ci js as hp (zCall0 cal i as rest k L hp n ns))
noncomputable def zThrow (e : Nat) : zI := fun _ _ _ st hp n ns => zck (zfew st) (some (2, e, hp, Nat.succ n, Nat.add ns 6))

section ZB
variable {sz : Nat} {sv : Nat → Value} {ev : Nat → Int32} {cl : List vw_C} {ar : zAr} {D : va_G}
variable {p : Program} {l : Launch} {e : Env} {R : Room} {s : State} {m : MethodId} {args : Array Value} {below : List Frame} {meth : Method} {c : Code} {Q : State → Prop}
variable {gw : List Cond} {cc : ByteArray} {own : String} {nL n0 ns0 : Nat} {r : zOut} {pc : Nat}

variable {G : State → Prop} {ex : Nat → String} {mt : zMt} {cal : zCal} {dd : Nat}
theorem zov_eq (r : zOut) : (r.1 = 0 → zov sz sv ev r = none) ∧ (r.1 = 1 → zov sz sv ev r = some (zvd sz sv ev r.2.1)) := by
  unfold zov
  exact ⟨fun h => by rw [if_pos h], fun h => by rw [if_neg (by omega)]⟩
theorem zInv_call {H : Heap} {locs L : List Loc} {hp : zHp} {n : Nat} {r' : zOut} {st₀ t T' : State} (hs : s.heap.size = sz + n0) (hn0 : n0 ≤ n) (hn : n ≤ r'.2.2.2.1) (b : zInv sz sv ev cl ar D s hp n H locs) (h0 : st₀.heap = H) (e1 : T'.heap = t.heap) (hL : ∀ q ∈ L, zA sz q.base) (hp' : zPost sz sv ev cl ar D r' st₀ t) : zInv sz sv ev cl ar D s r'.2.2.1 r'.2.2.2.1 T'.heap (locs ++ L) := by
  obtain ⟨p1, p2, p3, p4⟩ := hp'
  rw [e1]
  refine ⟨p1, p2, p3, by omega, fun q hq hz => ?_, fun q hq => ?_⟩
  · have hq' : q < sz := Nat.lt_of_not_le hz
    rw [p4 q hq', h0]
    exact b.2.2.2.2.1 q hq hz
  · rcases List.mem_append.mp hq with h | h
    · exact b.2.2.2.2.2 q h
    · exact hL q h
theorem zcall_ret {H : Heap} {locs : List Loc} {hp : zHp} {n ns mc ms : Nat} {ls : Array Slot} {st0 rest : List Value} {a : Array Value} {r' : zOut} (X : zCtx sz sv cl ar D p R s m args c gw cc own nL n0 ns0 r) (hn : n ≤ r'.2.2.2.1) (hns : ns ≤ r'.2.2.2.2) (hns0 : ns0 ≤ ns) (b : zInv sz sv ev cl ar D s hp n H locs) (hmc : mc = r'.2.2.2.1 - n) (hms : ms = r'.2.2.2.2 - ns)
    (hr : va_Run p l e R s m args below meth c H locs (n - n0) (ns - ns0) mc ms (F0 m pc ls st0) rest (zQc sz sv ev cl ar D r' a) (zA sz))
    (kk : ∀ H1 locs1, zInv sz sv ev cl ar D s r'.2.2.1 r'.2.2.2.1 H1 locs1 → W p l e R s m args below meth c H1 locs1 (r'.2.2.2.1 - n0) (r'.2.2.2.2 - ns0) Q (F0 m (pc + 3) ls ((zov sz sv ev r').toList ++ rest))) :
    W p l e R s m args below meth c H locs (n - n0) (ns - ns0) Q (F0 m pc ls st0) := by
  have hs := X.2.2.2.2.2.2.1
  have hn0 : n0 ≤ n := by have g1 := b.2.2.2.1; have g2 := b.2.2.1; omega
  intro T hT XX
  obtain ⟨v, st₀, t, T', L, h0, X', hL, e1, e2, ⟨hv, hpo⟩, st⟩ := hr T hT XX
  cases hv
  have c1 : n - n0 + mc = r'.2.2.2.1 - n0 := by omega
  have c2 : ns - ns0 + ms = r'.2.2.2.2 - ns0 := by omega
  rw [c1, c2] at X'
  obtain ⟨t2, a1, b1⟩ := kk T'.heap (locs ++ L) (zInv_call hs hn0 hn b h0 e1 hL hpo) T' rfl X'
  exact ⟨t2, st t2 a1, b1⟩
theorem zcall_ret5 {H : Heap} {locs : List Loc} {hp : zHp} {n ns mc ms : Nat} {ls : Array Slot} {st0 rest : List Value} {a : Array Value} {r' : zOut} (X : zCtx sz sv cl ar D p R s m args c gw cc own nL n0 ns0 r) (hn : n ≤ r'.2.2.2.1) (hns : ns ≤ r'.2.2.2.2) (hns0 : ns0 ≤ ns) (b : zInv sz sv ev cl ar D s hp n H locs) (hmc : mc = r'.2.2.2.1 - n) (hms : ms = r'.2.2.2.2 - ns)
    (hr : va_Run5 p l e R s m args below meth c H locs (n - n0) (ns - ns0) mc ms (F0 m pc ls st0) rest (zQc sz sv ev cl ar D r' a) (zA sz))
    (kk : ∀ H1 locs1, zInv sz sv ev cl ar D s r'.2.2.1 r'.2.2.2.1 H1 locs1 → W p l e R s m args below meth c H1 locs1 (r'.2.2.2.1 - n0) (r'.2.2.2.2 - ns0) Q (F0 m (pc + 5) ls ((zov sz sv ev r').toList ++ rest))) :
    W p l e R s m args below meth c H locs (n - n0) (ns - ns0) Q (F0 m pc ls st0) := by
  have hs := X.2.2.2.2.2.2.1
  have hn0 : n0 ≤ n := by have g1 := b.2.2.2.1; have g2 := b.2.2.1; omega
  intro T hT XX
  obtain ⟨v, st₀, t, T', L, h0, X', hL, e1, e2, ⟨hv, hpo⟩, st⟩ := hr T hT XX
  cases hv
  have c1 : n - n0 + mc = r'.2.2.2.1 - n0 := by omega
  have c2 : ns - ns0 + ms = r'.2.2.2.2 - ns0 := by omega
  rw [c1, c2] at X'
  obtain ⟨t2, a1, b1⟩ := kk T'.heap (locs ++ L) (zInv_call hs hn0 hn b h0 e1 hL hpo) T' rfl X'
  exact ⟨t2, st t2 a1, b1⟩
/-- at a throw out of here -/
theorem zcall_thr {H : Heap} {locs : List Loc} {hp : zHp} {n ns mc ms : Nat} {ls : Array Slot} {st0 rest : List Value} {r' : zOut} (X : zCtx sz sv cl ar D p R s m args c gw cc own nL n0 ns0 r) (hn : n ≤ r'.2.2.2.1) (hns : ns ≤ r'.2.2.2.2) (hns0 : ns0 ≤ ns) (b : zInv sz sv ev cl ar D s hp n H locs) (hmc : mc = r'.2.2.2.1 - n) (hms : ms = r'.2.2.2.2 - ns)
    (hr : vx_Run p l e R s m args below meth c H locs (n - n0) (ns - ns0) mc ms (F0 m pc ls st0) rest (fun _ _ _ => False) (zXC sz sv ev cl ar D ex r') (zA sz))
    (kk : ∀ H1 locs1 q9 ce, zInv sz sv ev cl ar D s r'.2.2.1 r'.2.2.2.1 H1 locs1 → H1[q9]? = some ce → ce.vm = .none → s.vm.findClass (ex r'.2.1) = some ce.cls → vx_W p l e R s m args below meth c H1 locs1 (r'.2.2.2.1 - n0) (r'.2.2.2.2 - ns0) Q (F0 m pc ls rest) q9) :
    W p l e R s m args below meth c H locs (n - n0) (ns - ns0) Q (F0 m pc ls st0) := by
  have hs := X.2.2.2.2.2.2.1
  have hn0 : n0 ≤ n := by have g1 := b.2.2.2.1; have g2 := b.2.2.1; omega
  intro T hT XX
  rcases hr T hT XX with ⟨v, st₀, t, T', L, h0, X', hL, e1, e2, hf, st⟩ | ⟨q, st₀, t, T', L, E, ce, h0, X', hL, e1, e2, ⟨hE, hpo⟩, hce, hcv, hcl, st⟩
  · exact hf.elim
  · have c1 : n - n0 + mc = r'.2.2.2.1 - n0 := by omega
    have c2 : ns - ns0 + ms = r'.2.2.2.2 - ns0 := by omega
    rw [c1, c2] at X'
    subst hE
    obtain ⟨t2, a1, b1⟩ := kk T'.heap (locs ++ L) q ce (zInv_call hs hn0 hn b h0 e1 hL hpo) (by rw [e1]; exact hce) hcv hcl T' rfl X'
    exact ⟨t2, st.trans a1, b1⟩
theorem zPc_blind {avs : List Nat} {hp : zHp} {n : Nat} (hG : zGm sz G) : FrameBlind (zPc sz sv ev cl ar D G avs hp n) := by
  intro a U g mk h
  exact ⟨h.1, hG U _ h.2.1 (State.WarmedH.refl U) (fun _ _ => rfl), h.2.2.1, h.2.2.2.1, h.2.2.2.2⟩
theorem zPre {avs : List Nat} {hp : zHp} {n : Nat} {H : Heap} {locs : List Loc} (hG : zGm sz G) (hs : G s) (hsz : s.heap.size = sz + n0) (b : zInv sz sv ev cl ar D s hp n H locs) : PreS s H (zPc sz sv ev cl ar D G avs hp n) (avs.map (zvd sz sv ev)) := by
  refine ⟨zPc_blind hG, fun U hU hW => ⟨rfl, hG s U hs hW (fun q hq => ?_), by rw [hU]; exact b.1, b.2.1, by rw [hU]; exact b.2.2.1⟩⟩
  rw [hU]
  exact b.2.2.2.2.1 q (by omega) (fun z => by have : sz ≤ q := z; omega)
theorem zgood {ws : List Cond} (hgw : ∀ w ∈ gw, goodWord w = true) (h : ∀ w ∈ ws, w ∈ gw) : GoodIn gw ws := fun w hw => ⟨h w hw, good_of_word (hgw w (h w hw))⟩
theorem zfix (X : zCtx sz sv cl ar D p R s m args c gw cc own nL n0 ns0 r) : CallFix p m c cc nL s args gw own := ⟨X.1, X.2.1, X.2.2.1, X.2.2.2.1, X.2.2.2.2.1⟩
/-- the frame's room -/
def zRoom (R : Room) (d : Nat) : Prop := d + 10 ≤ R.frames ∧ 64 * d + 200 ≤ R.locals

/-- the machine's call, whatever its kind -/
def zRuns (sz : Nat) (sv : Nat → Value) (ev : Nat → Int32) (cl : List vw_C) (ar : zAr) (D : va_G) (G : State → Prop) (ex : Nat → String) (p : Program) (l : Launch) (e : Env) (R : Room) (s : State) (m : MethodId) (args : Array Value) (below : List Frame) (meth : Method) (c : Code) (nL n0 ns0 : Nat) (gw : List Cond) (mt : zMt) (dd pc i : Nat) (as rest : List Nat) (hp : zHp) (n ns : Nat) : Prop :=
  ∀ (r' : zOut) (H : Heap) (locs : List Loc) (ls : Array Slot), ls.size = nL → zInv sz sv ev cl ar D s hp n H locs → zCon sz sv ev cl ar D G ex l gw mt dd i as hp n ns r' → (n - n0) + (r'.2.2.2.1 - n) ≤ R.cells → (ns - ns0) + (r'.2.2.2.2 - ns) ≤ R.slots → ((rest.map (zvd sz sv ev)).map fun v => v.category).sum ≤ 8 →
    (r'.1 ≠ 2 → va_Run p l e R s m args below meth c H locs (n - n0) (ns - ns0) (r'.2.2.2.1 - n) (r'.2.2.2.2 - ns) (F0 m pc ls ((as.reverse ++ rest).map (zvd sz sv ev))) (rest.map (zvd sz sv ev)) (zQc sz sv ev cl ar D r' (as.map (zvd sz sv ev)).toArray) (zA sz)) ∧
    (r'.1 = 2 → vx_Run p l e R s m args below meth c H locs (n - n0) (ns - ns0) (r'.2.2.2.1 - n) (r'.2.2.2.2 - ns) (F0 m pc ls ((as.reverse ++ rest).map (zvd sz sv ev))) (rest.map (zvd sz sv ev)) (fun _ _ _ => False) (zXC sz sv ev cl ar D ex r') (zA sz))
/-- what a frame owes at a throw -/
def zOwx (sz : Nat) (sv : Nat → Value) (ev : Nat → Int32) (cl : List vw_C) (ar : zAr) (D : va_G) (ex : Nat → String) (p : Program) (l : Launch) (e : Env) (R : Room) (s : State) (m : MethodId) (args : Array Value) (below : List Frame) (meth : Method) (c : Code) (Q : State → Prop) (n0 ns0 : Nat) (r : zOut) : Prop :=
  r.1 = 2 → (∀ x ∈ c.exceptionTable.toList, False) ∧ Q = vx_MQ below (fun _ _ _ _ => False) (zXC sz sv ev cl ar D ex r) args s (r.2.2.2.1 - n0) (r.2.2.2.2 - ns0) (zA sz)
theorem gCall0 (X : zCtx sz sv cl ar D p R s m args c gw cc own nL n0 ns0 r) (hC : zCok sz sv ev cl ar D G ex l gw mt dd cal) (hlk : meth.locks = false) (hx : zOwx sz sv ev cl ar D ex p l e R s m args below meth c Q n0 ns0 r) {i : Nat} {as rest : List Nat} {k : zK} {L : Nat} {hp : zHp} {n ns : Nat} (hrun : zRuns sz sv ev cl ar D G ex p l e R s m args below meth c nL n0 ns0 gw mt dd pc i as rest hp n ns)
    (hk : zSnd sz sv ev cl ar D p l e R s m args below meth c Q nL n0 ns0 r (pc + 3) k) (hf : zfew rest = true) (hr : zCall0 cal i as rest k L hp n ns = some r) : n ≤ r.2.2.2.1 ∧ ns ≤ r.2.2.2.2 ∧ ∀ ls H locs, zLR sz sv ev nL L ls → zInv sz sv ev cl ar D s hp n H locs → ns0 ≤ ns → W p l e R s m args below meth c H locs (n - n0) (ns - ns0) Q (F0 m pc ls ((as.reverse ++ rest).map (zvd sz sv ev))) := by
  obtain ⟨o, ho, hr⟩ := zbind_some hr
  obtain ⟨c1, c2, hcon⟩ := hC i as hp n ns o ho
  have hRc := X.2.2.2.2.2.2.2.1
  have hRs := X.2.2.2.2.2.2.2.2.1
  have hs := X.2.2.2.2.2.2.1
  rcases zout_some hr with ⟨hk0, hr⟩ | ⟨hk1, hr⟩ | ⟨hk2, hr⟩
  · obtain ⟨h1, h2, h3⟩ := hk L rest _ _ _ hr
    refine ⟨by omega, by omega, fun ls H locs a b d => ?_⟩
    have hn0 : n0 ≤ n := by have g1 := b.2.2.2.1; have g2 := b.2.2.1; omega
    refine zcall_ret X c1 c2 d b rfl rfl ((hrun o H locs ls a.1 b hcon (by omega) (by omega) (zfew_eq hf)).1 (by omega)) fun H1 locs1 b1 => ?_
    rw [(zov_eq o).1 hk0]
    exact h3 ls H1 locs1 a b1 (by omega)
  · obtain ⟨h1, h2, h3⟩ := hk L (o.2.1 :: rest) _ _ _ hr
    refine ⟨by omega, by omega, fun ls H locs a b d => ?_⟩
    have hn0 : n0 ≤ n := by have g1 := b.2.2.2.1; have g2 := b.2.2.1; omega
    refine zcall_ret X c1 c2 d b rfl rfl ((hrun o H locs ls a.1 b hcon (by omega) (by omega) (zfew_eq hf)).1 (by omega)) fun H1 locs1 b1 => ?_
    rw [(zov_eq o).2 hk1]
    exact h3 ls H1 locs1 a b1 (by omega)
  · have e := Option.some.inj hr
    subst e
    refine ⟨c1, c2, fun ls H locs a b d => ?_⟩
    have hn0 : n0 ≤ n := by have g1 := b.2.2.2.1; have g2 := b.2.2.1; omega
    obtain ⟨hout, hQ⟩ := hx hk2
    refine zcall_thr X c1 c2 d b rfl rfl ((hrun o H locs ls a.1 b hcon (by omega) (by omega) (zfew_eq hf)).2 hk2) fun H1 locs1 q9 ce b1 e1 e2 e3 => ?_
    rw [hQ]
    refine vx_out (fun x hx => (hout x hx).elim) hlk e1 e2 e3 (fun t ht _ => ⟨rfl, ?_⟩) (fun z hz => b1.2.2.2.2.2 z hz) (Nat.le_refl _) (Nat.le_refl _)
    exact zInv_post (k := o.1) (v := o.2.1) (ns := o.2.2.2.2) hs b1 ht

theorem gCallS (X : zCtx sz sv cl ar D p R s m args c gw cc own nL n0 ns0 r) (hC : zCok sz sv ev cl ar D G ex l gw mt dd cal) (hlk : meth.locks = false) (hx : zOwx sz sv ev cl ar D ex p l e R s m args below meth c Q n0 ns0 r) {i na : Nat} (hrun : ∀ as rest hp n ns, as.length = na → zRuns sz sv ev cl ar D G ex p l e R s m args below meth c nL n0 ns0 gw mt dd pc i as rest hp n ns) : zGd sz sv ev cl ar D p l e R s m args below meth c Q nL n0 ns0 r pc 3 (zCall cal i na) := by
  intro k j hk hj L st hp n ns hr
  obtain ⟨as, rest, rfl, hlen, hr⟩ := ztake_some hr
  rw [List.append_nil] at hr
  obtain ⟨hf, hr⟩ := zck_some hr
  exact gCall0 X hC hlk hx (hrun as rest hp n ns hlen) hk hf hr

theorem zrunS (X : zCtx sz sv cl ar D p R s m args c gw cc own nL n0 ns0 r) (hR : zRoom R (dd + 1)) (hG : zGm sz G) (hs : G s) (hgw : ∀ w ∈ gw, goodWord w = true) {index i : Nat} (hmL : (mt i).2.2.1 ≤ 45) (hmem : ∀ w ∈ wsS own index (mt i).1 (Cond.code (mt i).1 (mt i).2.1 (mt i).2.2.1 (mt i).2.2.2 :: gw), w ∈ gw) {na : Nat} (hd0 : (mt i).1.cls = own ∧ (mt i).1.cls ≠ "java/lang/invoke/MethodHandle" ∧ (mt i).1.cls ≠ "java/lang/invoke/VarHandle" ∧ (parseMethodDescriptor (mt i).1.desc).map (fun d => d.parameters.length) = some na) (hd : decode cc pc = .ok (.invokestatic index, 3)) :
    ∀ as rest hp n ns, as.length = na → zRuns sz sv ev cl ar D G ex p l e R s m args below meth c nL n0 ns0 gw mt dd pc i as rest hp n ns := by
  intro as rest hp n ns hlen r' H locs ls hls b hcon hcc hss hrest
  have hroom : (zrm dd (r'.2.2.2.1 - n) (r'.2.2.2.2 - ns)).frames + 1 ≤ R.frames ∧ 8 + ((mt i).2.2.1 + 11) + (zrm dd (r'.2.2.2.1 - n) (r'.2.2.2.2 - ns)).locals ≤ R.locals := ⟨by have := hR.1; show dd + 10 + 1 ≤ _; omega, by have := hR.2; show 8 + ((mt i).2.2.1 + 11) + (64 * dd + 200) ≤ _; omega⟩
  have cw := cwS (R := R) (rm := zrm dd (r'.2.2.2.1 - n) (r'.2.2.2.2 - ns)) na X.2.2.2.2.1 (zgood hgw hmem) rfl rfl rfl hd0 hroom
  constructor
  · intro h2
    have hM := hcon
    unfold zCon at hM
    rw [if_neg h2] at hM
    exact va_runS (zfix X) hM cw (zPre hG hs X.2.2.2.2.2.2.1 b) rfl (by simp [hlen]) hls (by simp) (lv_room hrest) hd ⟨hcc, hss⟩
  · intro h2
    have hM := hcon
    unfold zCon at hM
    rw [if_pos h2] at hM
    exact vx_runS (zfix X) hM cw (zPre hG hs X.2.2.2.2.2.2.1 b) rfl (by simp [hlen]) hls (by simp) (lv_room hrest) hd ⟨hcc, hss⟩

end ZB