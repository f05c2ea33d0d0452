/-! ===== the abstract machine: heaps by fields, operations, runs; nothing of the kit's machine in it but values and slots ===== -/
/-- next address, cells made, slots made; the tag of an address; its length; whole numbers, long numbers, references: by field (0: elements of an array), address, place -/
abbrev zH : Type := (Nat × Nat × Nat) × (Nat → Nat) × (Nat → Nat) × (Nat → Nat → Nat → Int32) × (Nat → Nat → Nat → Int64) × (Nat → Nat → Nat → Option Nat)
def zN (h : zH) : Nat := h.1.1
def zC (h : zH) : Nat := h.1.2.1
def zS (h : zH) : Nat := h.1.2.2
def zT (h : zH) : Nat → Nat := h.2.1
def zE (h : zH) : Nat → Nat := h.2.2.1
def zI (h : zH) : Nat → Nat → Nat → Int32 := h.2.2.2.1
def zL (h : zH) : Nat → Nat → Nat → Int64 := h.2.2.2.2.1
def zR (h : zH) : Nat → Nat → Nat → Option Nat := h.2.2.2.2.2
def zsI (h : zH) (g a i : Nat) (x : Int32) : zH := (h.1, h.2.1, h.2.2.1, (fun g' a' i' => if g' = g ∧ a' = a ∧ i' = i then x else zI h g' a' i'), h.2.2.2.2.1, h.2.2.2.2.2)
def zsL (h : zH) (g a i : Nat) (x : Int64) : zH := (h.1, h.2.1, h.2.2.1, h.2.2.2.1, (fun g' a' i' => if g' = g ∧ a' = a ∧ i' = i then x else zL h g' a' i'), h.2.2.2.2.2)
def zsR (h : zH) (g a i : Nat) (x : Option Nat) : zH := (h.1, h.2.1, h.2.2.1, h.2.2.2.1, h.2.2.2.2.1, (fun g' a' i' => if g' = g ∧ a' = a ∧ i' = i then x else zR h g' a' i'))
/-- a new cell of tag t, length n, k slots, all 0 -/
def zNew (h : zH) (t n k : Nat) : zH := ((zN h + 1, zC h + 1, zS h + k), (fun a => if a = zN h then t else zT h a), (fun a => if a = zN h then n else zE h a), (fun g a i => if a = zN h then 0 else zI h g a i), (fun g a i => if a = zN h then 0 else zL h g a i), (fun g a i => if a = zN h then none else zR h g a i))
/-- an address of which nothing is known (an exception's) -/
def zOpq (h : zH) : zH := ((zN h + 1, zC h, zS h), (fun a => if a = zN h then 0 else zT h a), h.2.2)
def zExc (h : zH) : zH := ((zN h, zC h + 1, zS h + 6), h.2)
abbrev zRes : Type := (Option Value ⊕ String) × zH
abbrev zGo : Type := Nat × List Slot × List Value × zH
abbrev zAct : Type := zGo ⊕ zRes ⊕ (Nat × List Value × zGo)
abbrev zOp : Type := Nat → List Slot → List Value → zH → Option zAct
/-- the code, the rank of a call, its first locals, its handlers -/
abbrev zP : Type := (Nat → Nat → zOp) × (Nat → List Value → Nat) × (Nat → List Value → List Slot) × (Nat → Nat → String → Option (Option Nat))
abbrev zRec : Type := Nat → Nat → Nat → List Slot → List Value → zH → Option zRes
def zCont (P : zP) (rec : zRec) (r y pc : Nat) (g : zGo) (q : Option zRes) : Option zRes := match q with
  | none => none
  | some (.inl v, h2) => rec r y g.1 g.2.1 (v.toList ++ g.2.2.1) h2
  | some (.inr E, h2) => match P.2.2.2 y pc E with
    | none => none
    | some none => some (.inr E, h2)
    | some (some k) => rec r y k g.2.1 [.ref (zN h2)] (zOpq h2)
def zStep (P : zP) (rec : zRec) (r y pc : Nat) (ls : List Slot) (st : List Value) (h : zH) : Option zRes := match P.1 y pc pc ls st h with
  | none => none
  | some (.inl g) => rec r y g.1 g.2.1 g.2.2.1 g.2.2.2
  | some (.inr (.inl q)) => some q
  | some (.inr (.inr c)) => if P.2.1 c.1 c.2.1 < r then zCont P rec r y pc c.2.2 (rec (P.2.1 c.1 c.2.1) c.1 0 (P.2.2.1 c.1 c.2.1) [] c.2.2.2.2.2) else none
def zRun (P : zP) : Nat → zRec
  | 0 => fun _ _ _ _ _ _ => none
  | n + 1 => zStep P (zRun P n)
def zLe (f g : zRec) : Prop := ∀ r y pc ls st h q, f r y pc ls st h = some q → g r y pc ls st h = some q
theorem zCont_mono {P : zP} {f g : zRec} (hl : zLe f g) {r y pc : Nat} {go : zGo} {q : Option zRes} {z : zRes} (he : zCont P f r y pc go q = some z) : zCont P g r y pc go q = some z := by
  unfold zCont at he ⊢
  rcases q with _ | ⟨v | E, h2⟩
  · cases he
  · exact hl _ _ _ _ _ _ _ he
  · dsimp only at he ⊢
    cases hh : P.2.2.2 y pc E with
    | none => rw [hh] at he; cases he
    | some o =>
      rw [hh] at he
      cases o with
      | none => exact he
      | some k => exact hl _ _ _ _ _ _ _ he
theorem zStep_mono {P : zP} {f g : zRec} (hl : zLe f g) : zLe (zStep P f) (zStep P g) := by
  intro r y pc ls st h z he
  unfold zStep at he ⊢
  cases hc : P.1 y pc pc ls st h with
  | none => rw [hc] at he; cases he
  | some a =>
    rw [hc] at he
    rcases a with go | q | c
    · exact hl _ _ _ _ _ _ _ he
    · exact he
    · dsimp only at he ⊢
      by_cases hr : P.2.1 c.1 c.2.1 < r
      · rw [if_pos hr] at he ⊢
        cases hq : f (P.2.1 c.1 c.2.1) c.1 0 (P.2.2.1 c.1 c.2.1) [] c.2.2.2.2.2 with
        | none => rw [hq] at he; cases he
        | some q =>
          rw [hq] at he
          rw [hl _ _ _ _ _ _ _ hq]
          exact zCont_mono hl he
      · rw [if_neg hr] at he; cases he
theorem zRun_le (P : zP) : ∀ n, zLe (zRun P n) (zRun P (n + 1))
  | 0 => fun _ _ _ _ _ _ _ he => by cases he
  | n + 1 => zStep_mono (zRun_le P n)
theorem zRun_add (P : zP) (n : Nat) : ∀ k, zLe (zRun P n) (zRun P (n + k))
  | 0 => fun _ _ _ _ _ _ _ he => he
  | k + 1 => fun r y pc ls st h q he => zRun_le P (n + k) _ _ _ _ _ _ _ (zRun_add P n k _ _ _ _ _ _ _ he)
theorem zRun_max (P : zP) {n m : Nat} (h : n ≤ m) : zLe (zRun P n) (zRun P m) := by
  obtain ⟨k, rfl⟩ := Nat.exists_eq_add_of_le h
  exact zRun_add P n k
noncomputable def zEv (P : zP) : zRec := fun r y pc ls st h => @dite _ (∃ q n, zRun P n r y pc ls st h = some q) (Classical.propDecidable _) (fun e => some (Classical.choose e)) (fun _ => none)
theorem zEv_iff {P : zP} {r y pc : Nat} {ls : List Slot} {st : List Value} {h : zH} {q : zRes} : zEv P r y pc ls st h = some q ↔ ∃ n, zRun P n r y pc ls st h = some q := by
  unfold zEv
  by_cases e : ∃ q n, zRun P n r y pc ls st h = some q
  · rw [dif_pos e]
    obtain ⟨n, hn⟩ := Classical.choose_spec e
    constructor
    · intro z
      exact ⟨n, hn.trans z⟩
    · rintro ⟨m, hm⟩
      have h1 := zRun_max P (Nat.le_max_left n m) _ _ _ _ _ _ _ hn
      have h2 := zRun_max P (Nat.le_max_right n m) _ _ _ _ _ _ _ hm
      exact h1.symm.trans h2
  · rw [dif_neg e]
    constructor
    · intro z
      cases z
    · rintro ⟨n, hn⟩
      exact absurd ⟨q, n, hn⟩ e
theorem zRun_ev (P : zP) (n : Nat) : zLe (zRun P n) (zEv P) := fun _ _ _ _ _ _ _ he => zEv_iff.mpr ⟨n, he⟩
theorem zCont_fin {P : zP} {r y pc : Nat} {go : zGo} {q : Option zRes} {z : zRes} (he : zCont P (zEv P) r y pc go q = some z) : ∃ n, zCont P (zRun P n) r y pc go q = some z := by
  unfold zCont at he ⊢
  rcases q with _ | ⟨v | E, h2⟩
  · cases he
  · exact zEv_iff.mp he
  · dsimp only at he ⊢
    cases hh : P.2.2.2 y pc E with
    | none => rw [hh] at he; cases he
    | some o =>
      rw [hh] at he
      cases o with
      | none => exact ⟨0, he⟩
      | some k => exact zEv_iff.mp he
theorem zEv_eq (P : zP) (r y pc : Nat) (ls : List Slot) (st : List Value) (h : zH) : zEv P r y pc ls st h = zStep P (zEv P) r y pc ls st h := by
  apply Option.ext
  intro q
  constructor
  · intro he
    obtain ⟨n, hn⟩ := zEv_iff.mp he
    cases n with
    | zero => cases hn
    | succ n => exact zStep_mono (zRun_ev P n) _ _ _ _ _ _ _ hn
  · intro he
    apply zEv_iff.mpr
    unfold zStep at he
    cases hc : P.1 y pc pc ls st h with
    | none => rw [hc] at he; cases he
    | some a =>
      rw [hc] at he
      rcases a with go | q0 | c
      · obtain ⟨n, hn⟩ := zEv_iff.mp he
        refine ⟨n + 1, ?_⟩
        show zStep P (zRun P n) r y pc ls st h = some q
        unfold zStep
        rw [hc]
        exact hn
      · refine ⟨1, ?_⟩
        show zStep P (zRun P 0) r y pc ls st h = some q
        unfold zStep
        rw [hc]
        exact he
      · dsimp only at he
        by_cases hr : P.2.1 c.1 c.2.1 < r
        · rw [if_pos hr] at he
          cases hq : zEv P (P.2.1 c.1 c.2.1) c.1 0 (P.2.2.1 c.1 c.2.1) [] c.2.2.2.2.2 with
          | none => rw [hq] at he; cases he
          | some q1 =>
            rw [hq] at he
            obtain ⟨n, hn⟩ := zEv_iff.mp hq
            obtain ⟨m, hm⟩ := zCont_fin he
            refine ⟨max n m + 1, ?_⟩
            show zStep P (zRun P (max n m)) r y pc ls st h = some q
            unfold zStep
            rw [hc]
            dsimp only
            rw [if_pos hr, zRun_max P (Nat.le_max_left n m) _ _ _ _ _ _ _ hn]
            exact zCont_mono (zRun_max P (Nat.le_max_right n m)) hm
        · rw [if_neg hr] at he; cases he
/-- a call's answer -/
noncomputable def zCl (P : zP) (y : Nat) (as : List Value) (h : zH) : Option zRes := zEv P (P.2.1 y as) y 0 (P.2.2.1 y as) [] h
theorem zEv_go {P : zP} {r y pc : Nat} {ls : List Slot} {st : List Value} {h : zH} {op : zOp} {pc' : Nat} {ls' : List Slot} {st' : List Value} {h' : zH} (ho : P.1 y pc = op) (he : op pc ls st h = some (.inl (pc', ls', st', h'))) : zEv P r y pc ls st h = zEv P r y pc' ls' st' h' := by
  rw [zEv_eq]
  unfold zStep
  rw [ho, he]
theorem zEv_fin {P : zP} {r y pc : Nat} {ls : List Slot} {st : List Value} {h : zH} {op : zOp} {q : zRes} (ho : P.1 y pc = op) (he : op pc ls st h = some (.inr (.inl q))) : zEv P r y pc ls st h = some q := by
  rw [zEv_eq]
  unfold zStep
  rw [ho, he]
theorem zEv_call {P : zP} {r y pc : Nat} {ls : List Slot} {st : List Value} {h : zH} {op : zOp} {y' : Nat} {as : List Value} {g : zGo} (ho : P.1 y pc = op) (he : op pc ls st h = some (.inr (.inr (y', as, g)))) (hr : P.2.1 y' as < r) : zEv P r y pc ls st h = zCont P (zEv P) r y pc g (zCl P y' as g.2.2.2) := by
  rw [zEv_eq]
  unfold zStep
  rw [ho, he]
  dsimp only
  rw [if_pos hr]
  rfl
/-- a call that returns -/
theorem zEv_ret {P : zP} {r y pc : Nat} {ls : List Slot} {st : List Value} {h : zH} {op : zOp} {y' : Nat} {as : List Value} {pc' : Nat} {ls' : List Slot} {st' : List Value} {h' h2 : zH} {v : Option Value} (ho : P.1 y pc = op) (he : op pc ls st h = some (.inr (.inr (y', as, (pc', ls', st', h'))))) (hr : P.2.1 y' as < r) (hv : zCl P y' as h' = some (.inl v, h2)) : zEv P r y pc ls st h = zEv P r y pc' ls' (v.toList ++ st') h2 := by
  rw [zEv_call ho he hr]
  dsimp only
  rw [hv]
  rfl
/-- a call that throws, not caught here -/
theorem zEv_thr {P : zP} {r y pc : Nat} {ls : List Slot} {st : List Value} {h : zH} {op : zOp} {y' : Nat} {as : List Value} {pc' : Nat} {ls' : List Slot} {st' : List Value} {h' h2 : zH} {E : String} (ho : P.1 y pc = op) (he : op pc ls st h = some (.inr (.inr (y', as, (pc', ls', st', h'))))) (hr : P.2.1 y' as < r) (hv : zCl P y' as h' = some (.inr E, h2)) (hh : P.2.2.2 y pc E = some none) : zEv P r y pc ls st h = some (.inr E, h2) := by
  rw [zEv_call ho he hr]
  dsimp only
  rw [hv]
  unfold zCont
  dsimp only
  rw [hh]
/-- a call that throws, caught here -/
theorem zEv_cat {P : zP} {r y pc : Nat} {ls : List Slot} {st : List Value} {h : zH} {op : zOp} {y' : Nat} {as : List Value} {pc' : Nat} {ls' : List Slot} {st' : List Value} {h' h2 : zH} {E : String} {k : Nat} (ho : P.1 y pc = op) (he : op pc ls st h = some (.inr (.inr (y', as, (pc', ls', st', h'))))) (hr : P.2.1 y' as < r) (hv : zCl P y' as h' = some (.inr E, h2)) (hh : P.2.2.2 y pc E = some (some k)) : zEv P r y pc ls st h = zEv P r y k ls' [.ref (zN h2)] (zOpq h2) := by
  rw [zEv_call ho he hr]
  dsimp only
  rw [hv]
  unfold zCont
  dsimp only
  rw [hh]
/-! ===== the operations ===== -/
def zIsR : Value → Bool
  | .ref _ => true
  | .null => true
  | .float _ => true
  | _ => false
def zC1 : Value → Bool
  | .long _ => false
  | .double _ => false
  | _ => true
def zst1 (ls : List Slot) (i : Nat) (v : Value) : Option (List Slot) := match ls[i]? with
  | none => none
  | some .second => none
  | some _ => match ls[i + 1]? with
    | some .second => some ((ls.set i (.val v)).set (i + 1) .unset)
    | _ => some (ls.set i (.val v))
def zst2 (ls : List Slot) (i : Nat) (v : Value) : Option (List Slot) := match ls[i]? with
  | none => none
  | some .second => none
  | some _ => match ls[i + 1]? with
    | none => none
    | some _ => match ls[i + 2]? with
      | some .second => some (((ls.set i (.val v)).set (i + 1) .second).set (i + 2) .unset)
      | _ => some ((ls.set i (.val v)).set (i + 1) .second)
def zgo (pc : Nat) (ls : List Slot) (st : List Value) (h : zH) : Option zAct := some (.inl (pc, ls, st, h))
def o_none : zOp := fun _ _ _ _ => none
def o_push (v : Value) (n : Nat) : zOp := fun pc ls st h => some (.inl (pc + n, ls, v :: st, h))
def o_iload (i n : Nat) : zOp := fun pc ls st h => match ls[i]? with
  | some (.val (.int x)) => some (.inl (pc + n, ls, .int x :: st, h))
  | _ => none
def o_lload (i n : Nat) : zOp := fun pc ls st h => match ls[i]? with
  | some (.val (.long x)) => some (.inl (pc + n, ls, .long x :: st, h))
  | _ => none
def o_aload (i n : Nat) : zOp := fun pc ls st h => match ls[i]? with
  | some (.val v) => (match zIsR v with
    | true => some (.inl (pc + n, ls, v :: st, h))
    | false => none)
  | _ => none
def o_istore (i n : Nat) : zOp := fun pc ls st h => match st with
  | .int x :: r => (match zst1 ls i (.int x) with
    | some ls' => some (.inl (pc + n, ls', r, h))
    | none => none)
  | _ => none
def o_lstore (i n : Nat) : zOp := fun pc ls st h => match st with
  | .long x :: r => (match zst2 ls i (.long x) with
    | some ls' => some (.inl (pc + n, ls', r, h))
    | none => none)
  | _ => none
def o_astore (i n : Nat) : zOp := fun pc ls st h => match st with
  | v :: r => (match zIsR v with
    | true => (match zst1 ls i v with
      | some ls' => some (.inl (pc + n, ls', r, h))
      | none => none)
    | false => none)
  | _ => none
def o_iinc (i : Nat) (k : Int32) : zOp := fun pc ls st h => match ls[i]? with
  | some (.val (.int x)) => (match zst1 ls i (.int (x + k)) with
    | some ls' => some (.inl (pc + 3, ls', st, h))
    | none => none)
  | _ => none
def o_iop (f : Int32 → Int32 → Int32) : zOp := fun pc ls st h => match st with
  | .int y :: .int x :: r => some (.inl (pc + 1, ls, .int (f x y) :: r, h))
  | _ => none
def o_lop (f : Int64 → Int64 → Int64) : zOp := fun pc ls st h => match st with
  | .long y :: .long x :: r => some (.inl (pc + 1, ls, .long (f x y) :: r, h))
  | _ => none
def o_dop (f : Int32 → Int32 → Int32) : zOp := fun pc ls st h => match st with
  | .int y :: .int x :: r => if y = 0 then none else some (.inl (pc + 1, ls, .int (f x y) :: r, h))
  | _ => none
def o_sop (f : Int64 → Int32 → Int64) : zOp := fun pc ls st h => match st with
  | .int y :: .long x :: r => some (.inl (pc + 1, ls, .long (f x y) :: r, h))
  | _ => none
def o_iun (f : Int32 → Int32) : zOp := fun pc ls st h => match st with
  | .int x :: r => some (.inl (pc + 1, ls, .int (f x) :: r, h))
  | _ => none
def o_i2l : zOp := fun pc ls st h => match st with
  | .int x :: r => some (.inl (pc + 1, ls, .long x.toInt64 :: r, h))
  | _ => none
def o_l2i : zOp := fun pc ls st h => match st with
  | .long x :: r => some (.inl (pc + 1, ls, .int x.toInt32 :: r, h))
  | _ => none
def o_lcmp : zOp := fun pc ls st h => match st with
  | .long y :: .long x :: r => some (.inl (pc + 1, ls, .int (lg_cmp x y) :: r, h))
  | _ => none
def o_ifeq (t : Nat) : zOp := fun pc ls st h => match st with
  | .int x :: r => some (.inl (if x = 0 then t else pc + 3, ls, r, h))
  | _ => none
def o_ifne (t : Nat) : zOp := fun pc ls st h => match st with
  | .int x :: r => some (.inl (if x = 0 then pc + 3 else t, ls, r, h))
  | _ => none
def o_iflt (t : Nat) : zOp := fun pc ls st h => match st with
  | .int x :: r => some (.inl (if x < 0 then t else pc + 3, ls, r, h))
  | _ => none
def o_ifge (t : Nat) : zOp := fun pc ls st h => match st with
  | .int x :: r => some (.inl (if 0 ≤ x then t else pc + 3, ls, r, h))
  | _ => none
def o_ifgt (t : Nat) : zOp := fun pc ls st h => match st with
  | .int x :: r => some (.inl (if 0 < x then t else pc + 3, ls, r, h))
  | _ => none
def o_ifle (t : Nat) : zOp := fun pc ls st h => match st with
  | .int x :: r => some (.inl (if x ≤ 0 then t else pc + 3, ls, r, h))
  | _ => none
def o_iceq (t : Nat) : zOp := fun pc ls st h => match st with
  | .int y :: .int x :: r => some (.inl (if x = y then t else pc + 3, ls, r, h))
  | _ => none
def o_icne (t : Nat) : zOp := fun pc ls st h => match st with
  | .int y :: .int x :: r => some (.inl (if x = y then pc + 3 else t, ls, r, h))
  | _ => none
def o_iclt (t : Nat) : zOp := fun pc ls st h => match st with
  | .int y :: .int x :: r => some (.inl (if x < y then t else pc + 3, ls, r, h))
  | _ => none
def o_icge (t : Nat) : zOp := fun pc ls st h => match st with
  | .int y :: .int x :: r => some (.inl (if y ≤ x then t else pc + 3, ls, r, h))
  | _ => none
def o_icgt (t : Nat) : zOp := fun pc ls st h => match st with
  | .int y :: .int x :: r => some (.inl (if y < x then t else pc + 3, ls, r, h))
  | _ => none
def o_icle (t : Nat) : zOp := fun pc ls st h => match st with
  | .int y :: .int x :: r => some (.inl (if x ≤ y then t else pc + 3, ls, r, h))
  | _ => none
def o_ifnull (t : Nat) : zOp := fun pc ls st h => match st with
  | .ref _ :: r => some (.inl (pc + 3, ls, r, h))
  | .null :: r => some (.inl (t, ls, r, h))
  | _ => none
def o_ifnon (t : Nat) : zOp := fun pc ls st h => match st with
  | .ref _ :: r => some (.inl (t, ls, r, h))
  | .null :: r => some (.inl (pc + 3, ls, r, h))
  | _ => none
def zDy (t : Nat) : Prop := 1 ≤ t ∧ t ≤ 39
def o_acne (t : Nat) : zOp := fun pc ls st h => match st with
  | .ref b :: .ref a :: r => if (1 ≤ zT h a ∧ zT h a ≤ 39) ∧ (1 ≤ zT h b ∧ zT h b ≤ 39) then some (.inl (if a = b then pc + 3 else t, ls, r, h)) else none
  | .ref _ :: .null :: r => some (.inl (t, ls, r, h))
  | .null :: .ref _ :: r => some (.inl (t, ls, r, h))
  | .null :: .null :: r => some (.inl (pc + 3, ls, r, h))
  | _ => none
def o_goto (t : Nat) : zOp := fun _ ls st h => some (.inl (t, ls, st, h))
def o_tsw (lo hi : Int) (ts : List Nat) (d : Nat) : zOp := fun _ ls st h => match st with
  | .int x :: r => if x.toInt < lo ∨ hi < x.toInt then some (.inl (d, ls, r, h)) else (match ts[(x.toInt - lo).toNat]? with
    | some t => some (.inl (t, ls, r, h))
    | none => none)
  | _ => none
def o_dup : zOp := fun pc ls st h => match st with
  | v :: r => (match zC1 v with
    | true => some (.inl (pc + 1, ls, v :: v :: r, h))
    | false => none)
  | _ => none
def o_dup2 : zOp := fun pc ls st h => match st with
  | v :: w :: r => (match zC1 v && zC1 w with
    | true => some (.inl (pc + 1, ls, v :: w :: v :: w :: r, h))
    | false => none)
  | _ => none
def o_pop : zOp := fun pc ls st h => match st with
  | v :: r => (match zC1 v with
    | true => some (.inl (pc + 1, ls, r, h))
    | false => none)
  | _ => none
/-- fields: t the tag of the class, g the field -/
def o_gfI (t g : Nat) : zOp := fun pc ls st h => match st with
  | .ref a :: r => if zT h a = t then some (.inl (pc + 3, ls, .int (zI h g a 0) :: r, h)) else none
  | _ => none
def o_gfL (t g : Nat) : zOp := fun pc ls st h => match st with
  | .ref a :: r => if zT h a = t then some (.inl (pc + 3, ls, .long (zL h g a 0) :: r, h)) else none
  | _ => none
def o_gfR (t g : Nat) : zOp := fun pc ls st h => match st with
  | .ref a :: r => if zT h a = t then some (.inl (pc + 3, ls, va_rf (zR h g a 0) :: r, h)) else none
  | _ => none
def o_pfI (t g : Nat) (nr : Int32 → Int32) : zOp := fun pc ls st h => match st with
  | .int x :: .ref a :: r => if zT h a = t ∧ nr x = x then some (.inl (pc + 3, ls, r, zsI h g a 0 x)) else none
  | _ => none
def o_pfL (t g : Nat) : zOp := fun pc ls st h => match st with
  | .long x :: .ref a :: r => if zT h a = t then some (.inl (pc + 3, ls, r, zsL h g a 0 x)) else none
  | _ => none
def o_pfR (t g : Nat) : zOp := fun pc ls st h => match st with
  | .ref b :: .ref a :: r => if zT h a = t then some (.inl (pc + 3, ls, r, zsR h g a 0 (some b))) else none
  | .null :: .ref a :: r => if zT h a = t then some (.inl (pc + 3, ls, r, zsR h g a 0 none)) else none
  | _ => none
/-- arrays -/
def o_xald (t : Nat) : zOp := fun pc ls st h => match st with
  | .int i :: .ref a :: r => if zT h a = t ∧ ¬ i < 0 ∧ i.toNatClampNeg < zE h a then some (.inl (pc + 1, ls, .int (zI h 0 a i.toNatClampNeg) :: r, h)) else none
  | _ => none
def o_xast (t : Nat) (nr : Int32 → Int32) : zOp := fun pc ls st h => match st with
  | .int x :: .int i :: .ref a :: r => if zT h a = t ∧ ¬ i < 0 ∧ i.toNatClampNeg < zE h a then some (.inl (pc + 1, ls, r, zsI h 0 a i.toNatClampNeg (nr x))) else none
  | _ => none
def o_lald : zOp := fun pc ls st h => match st with
  | .int i :: .ref a :: r => if zT h a = 21 ∧ ¬ i < 0 ∧ i.toNatClampNeg < zE h a then some (.inl (pc + 1, ls, .long (zL h 0 a i.toNatClampNeg) :: r, h)) else none
  | _ => none
def o_last : zOp := fun pc ls st h => match st with
  | .long x :: .int i :: .ref a :: r => if zT h a = 21 ∧ ¬ i < 0 ∧ i.toNatClampNeg < zE h a then some (.inl (pc + 1, ls, r, zsL h 0 a i.toNatClampNeg x)) else none
  | _ => none
def o_aald (t : Nat) : zOp := fun pc ls st h => match st with
  | .int i :: .ref a :: r => if zT h a = t ∧ ¬ i < 0 ∧ i.toNatClampNeg < zE h a then some (.inl (pc + 1, ls, va_rf (zR h 0 a i.toNatClampNeg) :: r, h)) else none
  | _ => none
/-- t the array's tag, u the tag of its elements' class -/
def o_aast (t u : Nat) : zOp := fun pc ls st h => match st with
  | .ref b :: .int i :: .ref a :: r => if zT h a = t ∧ ¬ i < 0 ∧ i.toNatClampNeg < zE h a ∧ zT h b = u then some (.inl (pc + 1, ls, r, zsR h 0 a i.toNatClampNeg (some b))) else none
  | _ => none
def o_alen : zOp := fun pc ls st h => match st with
  | .ref a :: r => if (20 ≤ zT h a ∧ zT h a ≤ 24) ∨ (31 ≤ zT h a ∧ zT h a ≤ 33) then some (.inl (pc + 1, ls, .int (nI (zE h a)) :: r, h)) else none
  | _ => none
def o_new (t k : Nat) : zOp := fun pc ls st h => some (.inl (pc + 3, ls, .ref (zN h) :: st, zNew h t 0 k))
def o_newa (t n : Nat) : zOp := fun pc ls st h => match st with
  | .int x :: r => if ¬ x < 0 ∧ x.toNatClampNeg ≤ 65536 then some (.inl (pc + n, ls, .ref (zN h) :: r, zNew h t x.toNatClampNeg x.toNatClampNeg)) else none
  | _ => none
def o_oini : zOp := fun pc ls st h => match st with
  | .ref _ :: r => (match Nat.ble r.length 4 with
    | true => some (.inl (pc + 3, ls, r, h))
    | false => none)
  | _ => none
/-- calls: n arguments; nl the callee's locals; u, w the receiver's tags -/
def o_cs (y n nl : Nat) : zOp := fun pc ls st h => match Nat.ble n st.length && (Nat.ble (st.length - n) 4 && Nat.ble (lg_sl (st.take n).reverse).length nl) with
  | true => some (.inr (.inr (y, (st.take n).reverse, (pc + 3, ls, st.drop n, h))))
  | false => none
def o_cv (y n nl u w : Nat) : zOp := fun pc ls st h => match Nat.ble (st.length - (n + 1)) 4 && Nat.ble (lg_sl (st.take (n + 1)).reverse).length nl with
  | true => (match st[n]? with
    | some (.ref a) => if zT h a = u ∨ zT h a = w then some (.inr (.inr (y, (st.take (n + 1)).reverse, (pc + 3, ls, st.drop (n + 1), h)))) else none
    | _ => none)
  | false => none
def o_thr (E : String) : zOp := fun _ _ st h => match Nat.ble st.length 8 with
  | true => some (.inr (.inl (.inr E, zExc h)))
  | false => none
def o_iret (nr : Int32 → Int32) : zOp := fun _ _ st h => match st with
  | [.int x] => if nr x = x then some (.inr (.inl (.inl (some (.int x)), h))) else none
  | _ => none
def o_lret : zOp := fun _ _ st h => match st with
  | [.long x] => some (.inr (.inl (.inl (some (.long x)), h)))
  | _ => none
def o_aret : zOp := fun _ _ st h => match st with
  | [v] => (match zIsR v with
    | true => some (.inr (.inl (.inl (some v), h)))
    | false => none)
  | _ => none
def o_vret : zOp := fun _ _ st h => match st with
  | [] => some (.inr (.inl (.inl none, h)))
  | _ => none
