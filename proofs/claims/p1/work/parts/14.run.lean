/-! blocks, fuel, methods -/
noncomputable def zfS (st : List Nat) : (List Nat → zR) → zR := List.rec (motive := fun _ => (List Nat → zR) → zR) (fun k => k []) (fun v _ ih k => ih fun t => zfN v fun v => k (v :: t)) st
theorem zfS_eq : ∀ (st : List Nat) (k : List Nat → zR), zfS st k = k st
  | [], _ => rfl
  | v :: t, k => by
    show zfS t (fun t => zfN v fun v => k (v :: t)) = _
    rw [zfS_eq t, zfN_eq]
abbrev zBs : Type := List (Nat × Nat × List zI)
noncomputable def zblk (b : List zI) (fall : zK) (j : Nat → zK) : zK := List.rec (motive := fun _ => zK) fall (fun f _ ih => f ih j) b
noncomputable def zfnd (pc : Nat) (bs : zBs) (k : Nat → List zI → zR) : zR := List.rec (motive := fun _ => zR) none (fun b _ ih => cond (Nat.beq b.1 pc) (k b.2.1 b.2.2) ih) bs
theorem zfnd_some {pc : Nat} {k : Nat → List zI → zR} {o : zOut} : ∀ {bs : zBs}, zfnd pc bs k = some o → ∃ b ∈ bs, b.1 = pc ∧ k b.2.1 b.2.2 = some o
  | [], h => nomatch h
  | b :: t, h => by
    have h' : cond (Nat.beq b.1 pc) (k b.2.1 b.2.2) (zfnd pc t k) = some o := h
    cases hb : Nat.beq b.1 pc with
    | true => rw [hb] at h'; exact ⟨b, List.mem_cons_self, Nat.eq_of_beq_eq_true hb, h'⟩
    | false =>
      rw [hb] at h'
      obtain ⟨b', h1, h2⟩ := zfnd_some h'
      exact ⟨b', List.mem_cons_of_mem _ h1, h2⟩
noncomputable def zstep (bs : zBs) (ih : Nat → zK) (pc : Nat) : zK := fun L st hp n ns => zfN L fun L => zfS st fun st => zfN n fun n => zfN ns fun ns => zfN pc fun pc => zfnd pc bs fun ft b => zblk b (ih ft) ih L st hp n ns
noncomputable def zrun (bs : zBs) (fuel : Nat) : Nat → zK := Nat.rec (motive := fun _ => Nat → zK) (fun _ _ _ _ _ _ => none) (fun _ ih => zstep bs ih) fuel
/-- the arguments in their places -/
noncomputable def zargs (as : List Nat) : Nat → Nat → Nat := List.rec (motive := fun _ => Nat → Nat → Nat) (fun _ L => L) (fun v _ ih i L => ih (cond (zt v 4) (Nat.succ (Nat.succ i)) (cond (zt v 6) (Nat.succ (Nat.succ i)) (Nat.succ i))) (zs L i (Nat.succ v))) as
noncomputable def zall (as : List Nat) : Bool := List.rec (motive := fun _ => Bool) true (fun v _ ih => cond (Nat.blt v 4722366482869645213695) ih false) as
noncomputable def zlen (as : List Nat) : Nat := List.rec (motive := fun _ => Nat) 0 (fun v _ ih => Nat.add (cond (zt v 4) 2 (cond (zt v 6) 2 1)) ih) as
/-- methods as the evaluator has them: locals, blocks -/
abbrev zTab : Type := Nat → Nat × zBs
noncomputable def zent1 (t : Nat × zBs) (fuel : Nat) (as : List Nat) (hp : zHp) (n ns : Nat) : zR := zck (zall as) (zck (Nat.ble (zlen as) t.1) (zrun t.2 fuel 0 (zargs as 0 0) [] hp n ns))
noncomputable def zE (tab : zCal → zTab) (fuel d : Nat) : zCal := Nat.rec (motive := fun _ => zCal) (fun _ _ _ _ _ => none) (fun _ ih i as hp n ns => zent1 (tab ih i) fuel as hp n ns) d
section ZR
variable {sz : Nat} {sv : Nat → Value} {ev : Nat → Int32} {cl : List vw_C} {ar : zAr} {D : va_G}
variable {p : Program} {l : Launch} {e : Env} {R : Room} {s : State} {m : MethodId} {args : Array Value} {below : List Frame} {meth : Method} {c : Code} {Q : State → Prop}
variable {nL n0 ns0 : Nat} {r : zOut}
/-- a stretch of instructions, each right -/
def zChain (sz : Nat) (sv : Nat → Value) (ev : Nat → Int32) (cl : List vw_C) (ar : zAr) (D : va_G) (p : Program) (l : Launch) (e : Env) (R : Room) (s : State) (m : MethodId) (args : Array Value) (below : List Frame) (meth : Method) (c : Code) (Q : State → Prop) (nL n0 ns0 : Nat) (r : zOut) : Nat → List zI → Nat → Prop
  | pc, [], ft => pc = ft
  | pc, f :: t, ft => ∃ len, zGd sz sv ev cl ar D p l e R s m args below meth c Q nL n0 ns0 r pc len f ∧ zChain sz sv ev cl ar D p l e R s m args below meth c Q nL n0 ns0 r (pc + len) t ft
theorem zblk_snd {fall : zK} {j : Nat → zK} {ft : Nat} (hf : zSnd sz sv ev cl ar D p l e R s m args below meth c Q nL n0 ns0 r ft fall) (hj : ∀ t, zSnd sz sv ev cl ar D p l e R s m args below meth c Q nL n0 ns0 r t (j t)) : ∀ (fs : List zI) (pc : Nat), zChain sz sv ev cl ar D p l e R s m args below meth c Q nL n0 ns0 r pc fs ft → zSnd sz sv ev cl ar D p l e R s m args below meth c Q nL n0 ns0 r pc (zblk fs fall j)
  | [], pc, h => by
    have h' : pc = ft := h
    subst h'
    exact hf
  | f :: t, pc, ⟨len, h1, h2⟩ => h1 _ j (zblk_snd hf hj t (pc + len) h2) hj
theorem zrun_snd {bs : zBs} (hb : ∀ b ∈ bs, zChain sz sv ev cl ar D p l e R s m args below meth c Q nL n0 ns0 r b.1 b.2.2 b.2.1) : ∀ (fuel pc : Nat), zSnd sz sv ev cl ar D p l e R s m args below meth c Q nL n0 ns0 r pc (zrun bs fuel pc)
  | 0, pc => fun _ _ _ _ _ h => nomatch h
  | fuel + 1, pc => by
    intro L st hp n ns h
    have ih := zrun_snd hb fuel
    have h' : zstep bs (zrun bs fuel) pc L st hp n ns = some r := h
    unfold zstep at h'
    rw [zfN_eq, zfS_eq, zfN_eq, zfN_eq, zfN_eq] at h'
    obtain ⟨b, hbm, hpc, g⟩ := zfnd_some h'
    subst hpc
    exact zblk_snd (ih b.2.1) ih b.2.2 b.1 (hb b hbm) L st hp n ns g
theorem zargs_ok (hs : zSv sv) : ∀ (as : List Nat) (i L : Nat), zall as = true → (∀ j, i ≤ j → zg L j = 0) → (∀ j, zg (zargs as i L) j ≠ 0 → j < i → zg (zargs as i L) j = zg L j) ∧ ∀ j, i ≤ j → zg (zargs as i L) j ≠ 0 → (j, zvd sz sv ev (zg (zargs as i L) j - 1)) ∈ lv_args i (as.map (zvd sz sv ev))
  | [], i, L, _, h0 => ⟨fun _ _ _ => rfl, fun j hj h => absurd (h0 j hj) h⟩
  | v :: t, i, L, ha, h0 => by
    have ha' : cond (Nat.blt v 4722366482869645213695) (zall t) false = true := ha
    have hv : v + 1 < 2 ^ 72 ∧ zall t = true := by
      cases hb : Nat.blt v 4722366482869645213695 with
      | true =>
        rw [hb] at ha'
        have : v + 1 ≤ 4722366482869645213695 := Nat.le_of_ble_eq_true hb
        exact ⟨Nat.lt_of_le_of_lt this (by decide), ha'⟩
      | false => rw [hb] at ha'; cases ha'
    have hcat : (cond (zt v 4) (Nat.succ (Nat.succ i)) (cond (zt v 6) (Nat.succ (Nat.succ i)) (Nat.succ i))) = if (zvd sz sv ev v).category = 2 then i + 2 else i + 1 := by
      cases h4 : zt v 4 with
      | true => rw [zvd_4 (zt_eq h4)]; rfl
      | false =>
        cases h6 : zt v 6 with
        | true => rw [zvd_6 (zt_eq h6)]; rfl
        | false =>
          have n4 : v % 8 ≠ 4 := fun e => by
            have : zt v 4 = true := by show Nat.beq (v % 8) 4 = true; rw [e]; rfl
            rw [this] at h4; cases h4
          have n6 : v % 8 ≠ 6 := fun e => by
            have : zt v 6 = true := by show Nat.beq (v % 8) 6 = true; rw [e]; rfl
            rw [this] at h6; cases h6
          rw [zcat1 n4 n6 hs.cat]; rfl
    have hstep : zargs (v :: t) i L = zargs t (if (zvd sz sv ev v).category = 2 then i + 2 else i + 1) (zs L i (v + 1)) := by
      rw [← hcat]; rfl
    rw [hstep]
    generalize hi' : (if (zvd sz sv ev v).category = 2 then i + 2 else i + 1) = i'
    have hii : i < i' := by rw [← hi']; split <;> omega
    have h0' : ∀ j, i' ≤ j → zg (zs L i (v + 1)) j = 0 := fun j hj => by
      rw [zg_zs _ _ _ _ hv.1, if_neg (by omega)]; exact h0 j (by omega)
    obtain ⟨a1, a2⟩ := zargs_ok hs t i' (zs L i (v + 1)) hv.2 h0'
    have hargs : lv_args i ((v :: t).map (zvd sz sv ev)) = (i, zvd sz sv ev v) :: lv_args i' (t.map (zvd sz sv ev)) := by
      rw [List.map_cons]; show (i, _) :: lv_args (if (zvd sz sv ev v).category = 2 then i + 2 else i + 1) _ = _; rw [hi']
    refine ⟨fun j hj hji => ?_, fun j hij hj => ?_⟩
    · rw [a1 j hj (by omega), zg_zs _ _ _ _ hv.1, if_neg (by omega)]
    · rw [hargs]
      by_cases hj' : i' ≤ j
      · exact List.mem_cons_of_mem _ (a2 j hj' hj)
      · have e1 := a1 j hj (by omega)
        rw [e1] at hj ⊢
        rw [zg_zs _ _ _ _ hv.1] at hj ⊢
        by_cases hji : j = i
        · rw [if_pos hji, hji]; exact List.mem_cons_self
        · rw [if_neg hji] at hj
          exact absurd (h0 j hij) hj
theorem zlen_ok (hs : zSv sv) : ∀ (as : List Nat), (lg_sl (as.map (zvd sz sv ev))).length = zlen as
  | [] => rfl
  | v :: t => by
    have ih := zlen_ok hs t
    have e : lg_sl ((v :: t).map (zvd sz sv ev)) = (if (zvd sz sv ev v).category = 2 then [Slot.val (zvd sz sv ev v), .second] else [Slot.val (zvd sz sv ev v)]) ++ lg_sl (t.map (zvd sz sv ev)) := rfl
    rw [e, List.length_append, ih]
    show _ = (cond (zt v 4) 2 (cond (zt v 6) 2 1)) + zlen t
    congr 1
    cases h4 : zt v 4 with
    | true => rw [zvd_4 (zt_eq h4)]; rfl
    | false =>
      cases h6 : zt v 6 with
      | true => rw [zvd_6 (zt_eq h6)]; rfl
      | false =>
        have n4 : v % 8 ≠ 4 := fun e => by
          have : zt v 4 = true := by show Nat.beq (v % 8) 4 = true; rw [e]; rfl
          rw [this] at h4; cases h4
        have n6 : v % 8 ≠ 6 := fun e => by
          have : zt v 6 = true := by show Nat.beq (v % 8) 6 = true; rw [e]; rfl
          rw [this] at h6; cases h6
        rw [if_neg (by rw [zcat1 n4 n6 hs.cat]; decide)]
        rfl
theorem zentry (hs : zSv sv) {as : List Nat} {nL : Nat} (ha : zall as = true) (hn : Nat.ble (zlen as) nL = true) : zLR sz sv ev nL (zargs as 0 0) ((lg_sl (as.map (zvd sz sv ev)) ++ List.replicate (nL - (lg_sl (as.map (zvd sz sv ev))).length) Slot.unset).toArray) := by
  have hl := lv_entry (as.map (zvd sz sv ev)) (n := nL) (by rw [zlen_ok hs]; exact Nat.le_of_ble_eq_true hn)
  obtain ⟨a1, a2⟩ := zargs_ok (sz := sz) (ev := ev) hs as 0 0 ha (fun j _ => zg_0 j)
  exact ⟨hl.1, hl.2.1, fun j hj => hl.2.2 _ (a2 j (Nat.zero_le _) hj)⟩
end ZR
