/-! ===== the abstract state ===== -/
/-- connected, selected and whether it writes, view, reply, line -/
abbrev zSs : Type := Bool × Option (Nat × Bool) × List (Nat × Nat) × List Nat × List Nat
abbrev zAS : Type := (Nat → zBx) × (Nat → zSs) × Nat
def zup {α : Type} (f : Nat → α) (i : Nat) (x : α) : Nat → α := fun j => if j = i then x else f j
theorem zup_eq {α : Type} (f : Nat → α) (i : Nat) (x : α) : zup f i x i = x := if_pos rfl
theorem zup_ne {α : Type} {f : Nat → α} {i j : Nat} {x : α} (h : j ≠ i) : zup f i x j = f j := if_neg h
def zaM (A : zAS) (b : Nat) : List zMg := (A.1 b).2.2.2
def zaC (A : zAS) (s : Nat) : Bool := (A.2.1 s).1
def zaQ (A : zAS) (s : Nat) : Option (Nat × Bool) := (A.2.1 s).2.1
def zaV (A : zAS) (s : Nat) : List (Nat × Nat) := (A.2.1 s).2.2.1
def zaT (A : zAS) (s : Nat) : List Nat := (A.2.1 s).2.2.2.1
def zaL (A : zAS) (s : Nat) : List Nat := (A.2.1 s).2.2.2.2
def zsB (A : zAS) (b : Nat) (B : zBx) : zAS := (zup A.1 b B, A.2)
def zsS (A : zAS) (s : Nat) (S : zSs) : zAS := (A.1, zup A.2.1 s S, A.2.2)
def zaVT (A : zAS) (s : Nat) (V : List (Nat × Nat)) (T : List Nat) : zAS := zsS A s (zaC A s, zaQ A s, V, T, zaL A s)
def zaMs (A : zAS) (b : Nat) (M : List zMg) : zAS := zsB A b ((A.1 b).1, (A.1 b).2.1, (A.1 b).2.2.1, M)
def zPcreate (A : zAS) (b : Nat) : zAS := (zup A.1 b (1, A.2.2 + 1, 1, []), A.2.1, A.2.2 + 1)
def zPdelete (A : zAS) (b : Nat) : zAS := zsB A b (0, (A.1 b).2)
def zPappend (A : zAS) (b f : Nat) (T : List Nat) : zAS := zsB A b ((A.1 b).1, (A.1 b).2.1, (A.1 b).2.2.1 + 1, zaM A b ++ [((A.1 b).2.2.1, f, T)])
def zPselect (A : zAS) (s b : Nat) (w : Bool) : zAS := zsS A s (zaC A s, some (b, w), (zaM A b).map zvof, zaT A s ++ zsT (zaM A b).length (A.1 b).2.1 (A.1 b).2.2.1, zaL A s)
def zPclean (A : zAS) (b : Nat) : zAS := zaMs A b ((zaM A b).filter zgd)
def zPleave (A : zAS) (s : Nat) (cn : Bool) : zAS := zsS A s (cn, none, [], zaT A s, zaL A s)
def zPover (A : zAS) (s b : Nat) (σ : zSg) : zAS := zaVT (zaMs A b σ.1) s σ.2.1 σ.2.2
def zPcopy (A : zAS) (b : Nat) (x : Nat × List zMg) : zAS := zsB A b ((A.1 b).1, (A.1 b).2.1, x.1, x.2)
def zPfind (A : zAS) (s : Nat) (T : List Nat) : zAS := zaVT A s (zaV A s) (zaT A s ++ (T ++ [10]))
/-- a command that is not refused is performed -/
def zPf (A : zAS) (s : Nat) (c : Nat → Nat) (k : Nat) (u : Bool) (a : zArg) : zAS :=
  if k = 5 then zPcreate A a.1
  else if k = 6 then zPdelete A a.1
  else if k = 9 then zPappend A a.1 a.2.1 ((List.range a.2.2.2.2.1).map fun q => c (a.2.2.2.1 + q))
  else if k = 7 ∨ k = 8 then zPselect A s a.1 (decide (k = 7))
  else if k = 4 then zPleave A s false
  else match zaQ A s with
    | none => A
    | some (b, w) =>
      if k = 3 then zPclean A b
      else if k = 2 then zPleave (if w then zPclean A b else A) s (zaC A s)
      else if k = 13 then zPfind A s (zov a.2.2.2.2.2.2.2 (zfn1 (zaM A b) (zaV A s) u) (zaV A s).length 1 [42, 32, 83, 69, 65, 82, 67, 72])
      else if k = 12 then zPcopy A a.1 (zov a.2.2.2.2.2.2.2 (zcp1 (zaM A b) (zaV A s)) (zaV A s).length 1 ((A.1 a.1).2.2.1, zaM A a.1))
      else if 10 ≤ k then zPover A s b (zov a.2.2.2.2.2.2.2 (zsF1 k a.2.2.1 a.2.1 a.2.2.2.2.2.1 w) (zaV A s).length 1 (zaM A b, zaV A s, zaT A s))
      else A
def zqB (q : Option (Nat × Bool)) (b : Nat) : Bool := match q with
  | none => false
  | some (x, _) => decide (x = b)
def zqW (q : Option (Nat × Bool)) : Bool := match q with
  | none => false
  | some (_, w) => w
/-- a place that P names and that is not gone -/
def zcn1 (M : List zMg) (V : List (Nat × Nat)) (P : zHd) (n : Nat) : Bool := (match V[n - 1]? with
  | none => false
  | some v => (zfind M v.1).isSome) && P n
/-- how many of them there are from n on -/
def zcn (M : List zMg) (V : List (Nat × Nat)) (P : zHd) : Nat → Nat → Nat
  | 0, _ => 0
  | f + 1, n => (zcn1 M V P n).toNat + zcn M V P f (n + 1)
def zaN (A : zAS) (s : Nat) (P : zHd) : Nat := match zaQ A s with
  | none => 0
  | some (b, _) => zcn (zaM A b) (zaV A s) P (zaV A s).length 1
def zrf (A : zAS) (s : Nat) (k : Nat) (a : zArg) : Bool :=
  (decide (k = 2 ∨ k = 3 ∨ 10 ≤ k) && (zaQ A s).isNone) ||
  (decide (k = 3 ∨ k = 10) && !zqW (zaQ A s)) ||
  (decide (10 ≤ k) && a.2.2.2.2.2.2.1) ||
  (decide (6 ≤ k ∧ k ≤ 9 ∨ k = 12) && decide ((A.1 a.1).1 = 0)) ||
  (decide (k = 5) && decide ((A.1 a.1).1 ≠ 0)) ||
  (decide (k = 6) && (zqB (zaQ A 0) a.1 || zqB (zaQ A 1) a.1 || zqB (zaQ A 2) a.1)) ||
  (decide (k = 9) && decide ((zaM A a.1).length = 10)) ||
  (decide (k = 12) && decide (10 < (zaM A a.1).length + zaN A s a.2.2.2.2.2.2.2))
/-- the view is told -/
def zPtell (A : zAS) (s k : Nat) (u : Bool) : zAS := if k = 2 ∨ k = 4 ∨ k = 7 ∨ k = 8 then A else match zaQ A s with
  | none => A
  | some (b, _) => zaVT A s (ztell (zaM A b) (!u && decide (k = 10 ∨ k = 11 ∨ k = 13)) (zaV A s) (zaT A s)).1 (ztell (zaM A b) (!u && decide (k = 10 ∨ k = 11 ∨ k = 13)) (zaV A s) (zaT A s)).2
/-- what each mailbox keeps -/
def zBI (K : Nat) (B : zBx) : Prop := (B.2.2.2.map fun g => g.1).Pairwise (· < ·) ∧ (∀ g ∈ B.2.2.2, g.1 < B.2.2.1) ∧ B.2.2.2.length ≤ 10 ∧ B.2.2.1 ≤ 1 + 10 * K ∧ B.2.1 ≤ 1 + K ∧ ∀ g ∈ B.2.2.2, g.2.1 < 16 ∧ g.2.2.length ≤ 6 ∧ ∀ x ∈ g.2.2, x < 127
/-- what each view keeps -/
def zVI (F : Nat → zBx) (q : Option (Nat × Bool)) (V : List (Nat × Nat)) : Prop := (V.map fun v => v.1).Pairwise (· < ·) ∧ (V.length ≤ 40 ∧ ∀ v ∈ V, v.2 < 16) ∧ (match q with
  | none => V = []
  | some (b, _) => b < 4 ∧ (F b).1 ≠ 0 ∧ (∀ v ∈ V, v.1 < (F b).2.2.1) ∧ ∀ g ∈ (F b).2.2.2, zhas V g.1 = false → ∀ v ∈ V, v.1 < g.1)
/-- what each state keeps -/
def zAI (K : Nat) (A : zAS) : Prop := (∀ b, b < 4 → zBI K (A.1 b)) ∧ (∀ s, s < 3 → zVI A.1 (zaQ A s) (zaV A s)) ∧ A.2.2 ≤ 1 + K
