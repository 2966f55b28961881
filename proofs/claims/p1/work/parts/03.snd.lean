/-! what the evaluator's numbers say of the heap, and what it is that a continuation is right -/
def zgi (sz : Nat) (sv : Nat → Value) (ev : Nat → Int32) (v : Nat) : Int32 := match zvd sz sv ev v with | .int x => x | _ => 0
def zgl (sz : Nat) (sv : Nat → Value) (ev : Nat → Int32) (v : Nat) : Int64 := match zvd sz sv ev v with | .long x => x | _ => 0
def zgr (sz : Nat) (sv : Nat → Value) (ev : Nat → Int32) (v : Nat) : Option Nat := match zvd sz sv ev v with | .ref x => some x | _ => none
def znf (cl : List vw_C) (k : Nat) : Nat := ((cl[k]?).map (fun q => q.2.2)).getD 0
/-- the classes of the rows: int, boolean, long, double, Object -/
abbrev zAr : Type := ClassId × ClassId × ClassId × ClassId × ClassId
def zent (sz : Nat) (sv : Nat → Value) (ev : Nat → Int32) (cl : List vw_C) (ar : zAr) (x : zC) : va_E :=
  if x.2.1 = 64 then .inl (ar.1, x.2.2.1, .inl (fun i => zgi sz sv ev (zg x.2.2.2 i)))
  else if x.2.1 = 65 then .inl (ar.2.1, x.2.2.1, .inl (fun i => zgi sz sv ev (zg x.2.2.2 i)))
  else if x.2.1 = 66 then .inl (ar.2.2.1, x.2.2.1, .inr (.inl (fun i => zgl sz sv ev (Nat.xor (zg x.2.2.2 i) 4))))
  else if x.2.1 = 67 then .inl (ar.2.2.2.1, x.2.2.1, .inr (.inr (.inr (.inl (fun _ => 0)))))
  else if x.2.1 = 68 then .inl (ar.2.2.2.2, x.2.2.1, .inr (.inr (.inr (.inr (fun i => zgr sz sv ev (Nat.xor (zg x.2.2.2 i) 3))))))
  else .inr (x.2.1, (List.range (znf cl x.2.1)).map (fun i => zvd sz sv ev (zg x.2.2.2 i)))
def zren (sz : Nat) (sv : Nat → Value) (ev : Nat → Int32) (cl : List vw_C) (ar : zAr) (hp : zHp) : va_W := hp.map (fun x => (sz + x.1, zent sz sv ev cl ar x))
/-- numbers fall, all below n -/
def zwf : Nat → zHp → Prop
  | _, [] => True
  | n, x :: t => x.1 < n ∧ zwf x.1 t
theorem zwf_le {n m : Nat} (h : n ≤ m) : ∀ {hp : zHp}, zwf n hp → zwf m hp
  | [], _ => trivial
  | _ :: _, w => ⟨Nat.lt_of_lt_of_le w.1 h, w.2⟩
theorem zwf_mem : ∀ {hp : zHp} {n : Nat}, zwf n hp → ∀ x ∈ hp, x.1 < n
  | [], _, _, _, h => nomatch h
  | y :: t, n, w, x, h => by
    rcases List.mem_cons.mp h with h | h
    · rw [h]; exact w.1
    · exact Nat.lt_trans (zwf_mem w.2 x h) w.1
theorem zwf_inj : ∀ {hp : zHp} {n : Nat}, zwf n hp → ∀ (i j : Nat) (x y : zC), hp[i]? = some x → hp[j]? = some y → x.1 = y.1 → i = j
  | [], _, _, i, _, _, _, h, _, _ => by simp at h
  | z :: t, n, w, 0, 0, _, _, _, _, _ => rfl
  | z :: t, n, w, i + 1, j + 1, x, y, h1, h2, e => by
    rw [List.getElem?_cons_succ] at h1 h2
    rw [zwf_inj w.2 i j x y h1 h2 e]
  | z :: t, n, w, 0, j + 1, x, y, h1, h2, e => by
    rw [List.getElem?_cons_succ] at h2
    have := zwf_mem w.2 y (List.mem_of_getElem? h2)
    simp at h1; subst h1; omega
  | z :: t, n, w, i + 1, 0, x, y, h1, h2, e => by
    rw [List.getElem?_cons_succ] at h1
    have := zwf_mem w.2 x (List.mem_of_getElem? h1)
    simp at h2; subst h2; omega
def zA (sz : Nat) : Nat → Prop := fun q => sz ≤ q
theorem zD {sz : Nat} {sv : Nat → Value} {ev : Nat → Int32} {cl : List vw_C} {ar : zAr} {hp : zHp} {n : Nat} (w : zwf n hp) : va_D (zA sz) (zren sz sv ev cl ar hp) := by
  refine ⟨fun i j p q hp1 hq1 e => ?_, fun k q hk => ?_⟩
  · simp only [zren, List.getElem?_map, Option.map_eq_some_iff] at hp1 hq1
    obtain ⟨x, hx, rfl⟩ := hp1
    obtain ⟨y, hy, rfl⟩ := hq1
    exact zwf_inj w i j x y hx hy (by simpa using e)
  · simp only [zren, List.getElem?_map, Option.map_eq_some_iff] at hk
    obtain ⟨x, hx, rfl⟩ := hk
    exact Nat.le_add_right _ _
/-- the locals -/
def zLR (sz : Nat) (sv : Nat → Value) (ev : Nat → Int32) (nL L : Nat) (ls : Array Slot) : Prop := ls.size = nL ∧ lv_wf ls ∧ ∀ i, zg L i ≠ 0 → ls[i]? = some (.val (zvd sz sv ev (zg L i - 1)))
def zlist (sz : Nat) (sv : Nat → Value) (ev : Nat → Int32) (nL L : Nat) : List (Nat × Value) := (List.range nL).filterMap (fun i => if zg L i = 0 then none else some (i, zvd sz sv ev (zg L i - 1)))
theorem zLR_has {sz : Nat} {sv : Nat → Value} {ev : Nat → Int32} {nL L : Nat} {ls : Array Slot} (h : zLR sz sv ev nL L ls) : lv_has ls nL (zlist sz sv ev nL L) := by
  refine ⟨h.1, h.2.1, fun q hq => ?_⟩
  obtain ⟨i, hi, he⟩ := List.mem_filterMap.mp hq
  by_cases h0 : zg L i = 0
  · rw [if_pos h0] at he; cases he
  · rw [if_neg h0] at he; cases he; exact h.2.2 i h0
theorem zLR_lt {sz : Nat} {sv : Nat → Value} {ev : Nat → Int32} {nL L : Nat} {ls : Array Slot} (h : zLR sz sv ev nL L ls) {i : Nat} (hi : zg L i ≠ 0) : i < nL := by
  have := (Array.getElem?_eq_some_iff.mp (h.2.2 i hi)).1
  rw [h.1] at this; exact this
theorem zmem_list {sz : Nat} {sv : Nat → Value} {ev : Nat → Int32} {nL L : Nat} {ls : Array Slot} (h : zLR sz sv ev nL L ls) {i : Nat} (hi : zg L i ≠ 0) : (i, zvd sz sv ev (zg L i - 1)) ∈ zlist sz sv ev nL L :=
  List.mem_filterMap.mpr ⟨i, List.mem_range.mpr (zLR_lt h hi), by rw [if_neg hi]⟩
theorem zcat1 {sz : Nat} {sv : Nat → Value} {ev : Nat → Int32} {v : Nat} (h : v % 8 ≠ 4) (h6 : v % 8 ≠ 6) (hs : ∀ j, (sv j).category = 1) : (zvd sz sv ev v).category = 1 := by
  unfold zvd
  repeat' split
  all_goals first | rfl | exact hs _ | omega
theorem znl_eq {L i : Nat} (h : znl L i = true) : ∀ j, j + 1 = i → zg L j ≠ 0 → (zg L j - 1) % 8 ≠ 4 ∧ (zg L j - 1) % 8 ≠ 6 := by
  intro j hj h0
  subst hj
  have h1 : (cond (Nat.beq (Nat.mod (zg L j) 8) 5) false (cond (Nat.beq (Nat.mod (zg L j) 8) 7) false true)) = true := h
  have e5 : zg L j % 8 ≠ 5 := fun e => by
    have : Nat.beq (Nat.mod (zg L j) 8) 5 = true := by show Nat.beq (zg L j % 8) 5 = true; rw [e]; rfl
    rw [this] at h1; cases h1
  have e7 : zg L j % 8 ≠ 7 := fun e => by
    have : Nat.beq (Nat.mod (zg L j) 8) 7 = true := by show Nat.beq (zg L j % 8) 7 = true; rw [e]; rfl
    rw [this] at h1
    cases hb : Nat.beq (Nat.mod (zg L j) 8) 5 <;> rw [hb] at h1 <;> cases h1
  constructor <;> omega
theorem zLR_st {sz : Nat} {sv : Nat → Value} {ev : Nat → Int32} {nL L i v : Nat} {ls ls' : Array Slot} (hs : ∀ j, (sv j).category = 1) (h : zLR sz sv ev nL L ls) (hv : v + 1 < 2 ^ 72) (hn : znl L i = true)
    (h' : lv_has ls' nL ((i, zvd sz sv ev v) :: (zlist sz sv ev nL L).filter (fun q => !(q.1 == i) && !(q.1 + 1 == i && q.2.category == 2)))) : zLR sz sv ev nL (zs L i (v + 1)) ls' := by
  refine ⟨h'.1, h'.2.1, fun j hj => ?_⟩
  rw [zg_zs L i (v + 1) j hv] at hj ⊢
  by_cases hji : j = i
  · subst hji
    rw [if_pos rfl]
    exact h'.2.2 (j, _) List.mem_cons_self
  · rw [if_neg hji] at hj ⊢
    refine h'.2.2 (j, zvd sz sv ev (zg L j - 1)) (List.mem_cons_of_mem _ (List.mem_filter.mpr ⟨zmem_list h hj, ?_⟩))
    have hc : (zvd sz sv ev (zg L j - 1)).category = 2 → j + 1 ≠ i := fun hc he => by
      obtain ⟨e4, e6⟩ := znl_eq hn j he hj
      rw [zcat1 e4 e6 hs] at hc; cases hc
    simp only [Bool.and_eq_true, Bool.not_eq_true', beq_eq_false_iff_ne, ne_eq, Bool.and_eq_false_iff]
    refine ⟨hji, ?_⟩
    by_cases he : j + 1 = i
    · exact Or.inr (by simpa using fun hc' => hc hc' he)
    · exact Or.inl he
theorem zLR_st2 {sz : Nat} {sv : Nat → Value} {ev : Nat → Int32} {nL L i v : Nat} {ls ls' : Array Slot} (hs : ∀ j, (sv j).category = 1) (h : zLR sz sv ev nL L ls) (hv : v + 1 < 2 ^ 72) (hn : znl L i = true)
    (h' : lv_has ls' nL ((i, zvd sz sv ev v) :: (zlist sz sv ev nL L).filter (fun q => !(q.1 == i) && (!(q.1 == i + 1) && !(q.1 + 1 == i && q.2.category == 2))))) : zLR sz sv ev nL (zs (zs L (i + 1) 0) i (v + 1)) ls' := by
  refine ⟨h'.1, h'.2.1, fun j hj => ?_⟩
  rw [zg_zs _ i (v + 1) j hv] at hj ⊢
  by_cases hji : j = i
  · subst hji
    rw [if_pos rfl]
    exact h'.2.2 (j, _) List.mem_cons_self
  · rw [if_neg hji] at hj ⊢
    rw [zg_zs L (i + 1) 0 j (by decide)] at hj ⊢
    by_cases hj1 : j = i + 1
    · rw [if_pos hj1] at hj; exact absurd rfl hj
    · rw [if_neg hj1] at hj ⊢
      refine h'.2.2 (j, zvd sz sv ev (zg L j - 1)) (List.mem_cons_of_mem _ (List.mem_filter.mpr ⟨zmem_list h hj, ?_⟩))
      have hc : (zvd sz sv ev (zg L j - 1)).category = 2 → j + 1 ≠ i := fun hc he => by
        obtain ⟨e4, e6⟩ := znl_eq hn j he hj
        rw [zcat1 e4 e6 hs] at hc; cases hc
      simp only [Bool.and_eq_true, Bool.not_eq_true', beq_eq_false_iff_ne, ne_eq, Bool.and_eq_false_iff]
      refine ⟨hji, hj1, ?_⟩
      by_cases he : j + 1 = i
      · exact Or.inr (by simpa using fun hc' => hc hc' he)
      · exact Or.inl he
