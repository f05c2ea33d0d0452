/-! ===== what the start gives: the constants ===== -/
theorem va_eqr {args : Array Value} {s : State} {t u : Term} {a : Nat} (h : (Cond.eq t u).before args s = true) (hu : u.eval args s none [] s = some (.ref a)) : t.eval args s none [] s = some (.ref a) := by
  cases hv : t.eval args s none [] s with
  | none => simp [Cond.before, Cond.holds, Cond.value, hv] at h
  | some w =>
    simp only [Cond.before, Cond.holds, Cond.value, hv, hu] at h
    cases w <;> simp_all
/-- a premise by its place -/
def zat : Jvm.Cond → List Bool → Jvm.Cond
  | .and a _, false :: r => zat a r
  | .and _ b, true :: r => zat b r
  | c, _ => c
theorem zand_b {args : Array Value} {s : State} {a b : Jvm.Cond} (h : (Jvm.Cond.and a b).before args s = true) : a.before args s = true ∧ b.before args s = true := by
  rw [Cond.before_and, Bool.and_eq_true] at h
  exact h
theorem zat_b {args : Array Value} {s : State} : ∀ (q : List Bool) (c : Jvm.Cond), c.before args s = true → (zat c q).before args s = true
  | [], c, h => by
    have e : zat c [] = c := by cases c <;> rfl
    rw [e]; exact h
  | x :: r, c, h => by
    cases c <;> first | exact h | (cases x <;> first | exact zat_b r _ (zand_b h).1 | exact zat_b r _ (zand_b h).2)
abbrev zPm (args : Array Value) (s : State) : Prop := ∀ q : List Bool, (zat (Jvm.Cond.and given_1 narrow_1) q).before args s = true
def zl (k : Nat) : String × Nat × String := zLit.getD k ("", 0, "")
abbrev ztS_ (k : Nat) : Term := .string (zl k).1 (zl k).2.1
abbrev ztV_ (i : Nat) : Term := .static "MailSessions$Verb" (zVnm.getD i "") "LMailSessions$Verb;"
abbrev ztB_ (k : Nat) : Term := .field (ztS_ k) "java/lang/String" "value" "[B"
abbrev ztA_ : Term := .static "MailSessions" "VERBS" "[LMailSessions$Verb;"
abbrev ztW_ : Term := .static "MailSessions$1" "$SwitchMap$MailSessions$Verb" "[I"
/-- a text, with its bytes -/
def zSk (s : State) (k : Nat) (A : Nat → Prop) (args : Array Value) (p : Nat × Nat) : Prop := (ztS_ k).eval args s none [] s = some (.ref p.1) ∧ va_O "java/lang/String" p.1 A s s.heap ∧ va_OF "java/lang/String" "coder" "B" (.int 0) p.1 A s s.heap ∧ va_OF "java/lang/String" "value" "[B" (.ref p.2) p.1 A s s.heap ∧ va_T .byte p.2 (zbl k) (fun j => .int (zbv k j)) A s s.heap
theorem zstr_of {args : Array Value} {s : State} {k : Nat} {A : Nat → Prop} (hA : ∀ a : Nat, a < s.heap.size → ¬ A a) (hn : zbl k < 64) (hex : (Cond.exactly (ztS_ k) "java/lang/String").before args s = true) (hco : (Cond.eq (.field (ztS_ k) "java/lang/String" "coder" "B") (.int 0)).before args s = true) (har : (Cond.arrayOf (ztB_ k) .byte).before args s = true) (hle : (Cond.eq (.length (ztB_ k)) (.int (Int32.ofNat (zbl k)))).before args s = true) (hel : ∀ j, j < zbl k → (Cond.eq (.elem (ztB_ k) (.int (Int32.ofNat j))) (.int (zbv k j))).before args s = true) : ∃ p, zSk s k A args p := by
  obtain ⟨a, c, cA, kA, q1, -⟩ := Cond.exactly_spec (args := args) (first := s) (o := none) (s := s) (idx := []) hex
  obtain ⟨t, e, hT⟩ := va_Tof (f := fun j => .int (zbv k j)) (by omega) har (va_eqt hle) (fun j hj => va_eqt (hel j hj)) hA
  exact ⟨(a, t), q1, va_Oof hex q1 hA, vk_OFof q1 (va_eqt hco) hA, vk_OFof q1 e hA, hT⟩
theorem zstr_0 {args : Array Value} {s : State} {A : Nat → Prop} (hA : ∀ a : Nat, a < s.heap.size → ¬ A a) (hp : zPm args s) : ∃ p, zSk s 0 A args p := zstr_of hA (by decide) (hp [true, false, true, true, true, false, true, true, true, false]) (hp [true, false, true, true, true, false, true, true, true, true, false]) (hp [true, false, true, true, true, false, true, true, true, true, true]) (hp [true, false, true, true, true, true, false, false, false, false]) (fun j hj => by
  have hj : j < 4 := hj
  have jj : j = 0 ∨ j = 1 ∨ j = 2 ∨ j = 3 := by omega
  rcases jj with rfl | rfl | rfl | rfl
  · exact (hp [true, false, true, true, true, true, false, false, false, true])
  · exact (hp [true, false, true, true, true, true, false, false, true, false])
  · exact (hp [true, false, true, true, true, true, false, false, true, true])
  · exact (hp [true, false, true, true, true, true, false, true, false, false]))
theorem zstr_1 {args : Array Value} {s : State} {A : Nat → Prop} (hA : ∀ a : Nat, a < s.heap.size → ¬ A a) (hp : zPm args s) : ∃ p, zSk s 1 A args p := zstr_of hA (by decide) (hp [true, false, true, true, true, true, false, true, false, true]) (hp [true, false, true, true, true, true, false, true, true, false]) (hp [true, false, true, true, true, true, false, true, true, true, false]) (hp [true, false, true, true, true, true, false, true, true, true, true]) (fun j hj => by
  have hj : j < 4 := hj
  have jj : j = 0 ∨ j = 1 ∨ j = 2 ∨ j = 3 := by omega
  rcases jj with rfl | rfl | rfl | rfl
  · exact (hp [true, false, true, true, true, true, true, false, false, false])
  · exact (hp [true, false, true, true, true, true, true, false, false, true])
  · exact (hp [true, false, true, true, true, true, true, false, true, false])
  · exact (hp [true, false, true, true, true, true, true, false, true, true, false]))
theorem zstr_2 {args : Array Value} {s : State} {A : Nat → Prop} (hA : ∀ a : Nat, a < s.heap.size → ¬ A a) (hp : zPm args s) : ∃ p, zSk s 2 A args p := zstr_of hA (by decide) (hp [true, false, true, true, true, true, true, false, true, true, true]) (hp [true, false, true, true, true, true, true, true, false, false]) (hp [true, false, true, true, true, true, true, true, false, true]) (hp [true, false, true, true, true, true, true, true, true, false]) (fun j hj => by
  have hj : j < 5 := hj
  have jj : j = 0 ∨ j = 1 ∨ j = 2 ∨ j = 3 ∨ j = 4 := by omega
  rcases jj with rfl | rfl | rfl | rfl | rfl
  · exact (hp [true, false, true, true, true, true, true, true, true, true, false])
  · exact (hp [true, false, true, true, true, true, true, true, true, true, true])
  · exact (hp [true, true, false, false, false, false, false, false, false, false])
  · exact (hp [true, true, false, false, false, false, false, false, false, true])
  · exact (hp [true, true, false, false, false, false, false, false, true, false]))
theorem zstr_3 {args : Array Value} {s : State} {A : Nat → Prop} (hA : ∀ a : Nat, a < s.heap.size → ¬ A a) (hp : zPm args s) : ∃ p, zSk s 3 A args p := zstr_of hA (by decide) (hp [true, true, false, false, false, false, false, false, true, true]) (hp [true, true, false, false, false, false, false, true, false, false]) (hp [true, true, false, false, false, false, false, true, false, true]) (hp [true, true, false, false, false, false, false, true, true, false]) (fun j hj => by
  have hj : j < 3 := hj
  have jj : j = 0 ∨ j = 1 ∨ j = 2 := by omega
  rcases jj with rfl | rfl | rfl
  · exact (hp [true, true, false, false, false, false, false, true, true, true, false])
  · exact (hp [true, true, false, false, false, false, false, true, true, true, true])
  · exact (hp [true, true, false, false, false, false, true, false, false, false]))
theorem zstr_4 {args : Array Value} {s : State} {A : Nat → Prop} (hA : ∀ a : Nat, a < s.heap.size → ¬ A a) (hp : zPm args s) : ∃ p, zSk s 4 A args p := zstr_of hA (by decide) (hp [true, true, false, false, false, false, true, false, false, true]) (hp [true, true, false, false, false, false, true, false, true, false]) (hp [true, true, false, false, false, false, true, false, true, true]) (hp [true, true, false, false, false, false, true, true, false, false]) (fun j hj => by
  have hj : j < 4 := hj
  have jj : j = 0 ∨ j = 1 ∨ j = 2 ∨ j = 3 := by omega
  rcases jj with rfl | rfl | rfl | rfl
  · exact (hp [true, true, false, false, false, false, true, true, false, true])
  · exact (hp [true, true, false, false, false, false, true, true, true, false])
  · exact (hp [true, true, false, false, false, false, true, true, true, true, false])
  · exact (hp [true, true, false, false, false, false, true, true, true, true, true]))
theorem zstr_5 {args : Array Value} {s : State} {A : Nat → Prop} (hA : ∀ a : Nat, a < s.heap.size → ¬ A a) (hp : zPm args s) : ∃ p, zSk s 5 A args p := zstr_of hA (by decide) (hp [true, true, false, false, false, true, false, false, false, false]) (hp [true, true, false, false, false, true, false, false, false, true]) (hp [true, true, false, false, false, true, false, false, true, false]) (hp [true, true, false, false, false, true, false, false, true, true]) (fun j hj => by
  have hj : j < 3 := hj
  have jj : j = 0 ∨ j = 1 ∨ j = 2 := by omega
  rcases jj with rfl | rfl | rfl
  · exact (hp [true, true, false, false, false, true, false, true, false, false])
  · exact (hp [true, true, false, false, false, true, false, true, false, true])
  · exact (hp [true, true, false, false, false, true, false, true, true, false]))
theorem zstr_6 {args : Array Value} {s : State} {A : Nat → Prop} (hA : ∀ a : Nat, a < s.heap.size → ¬ A a) (hp : zPm args s) : ∃ p, zSk s 6 A args p := zstr_of hA (by decide) (hp [true, true, false, false, false, true, false, true, true, true, false]) (hp [true, true, false, false, false, true, false, true, true, true, true]) (hp [true, true, false, false, false, true, true, false, false, false]) (hp [true, true, false, false, false, true, true, false, false, true]) (fun j hj => by
  have hj : j < 4 := hj
  have jj : j = 0 ∨ j = 1 ∨ j = 2 ∨ j = 3 := by omega
  rcases jj with rfl | rfl | rfl | rfl
  · exact (hp [true, true, false, false, false, true, true, false, true, false])
  · exact (hp [true, true, false, false, false, true, true, false, true, true])
  · exact (hp [true, true, false, false, false, true, true, true, false, false])
  · exact (hp [true, true, false, false, false, true, true, true, false, true]))
theorem zstr_7 {args : Array Value} {s : State} {A : Nat → Prop} (hA : ∀ a : Nat, a < s.heap.size → ¬ A a) (hp : zPm args s) : ∃ p, zSk s 7 A args p := zstr_of hA (by decide) (hp [true, true, false, false, false, true, true, true, true, false]) (hp [true, true, false, false, false, true, true, true, true, true, false]) (hp [true, true, false, false, false, true, true, true, true, true, true]) (hp [true, true, false, false, true, false, false, false, false, false]) (fun j hj => by
  have hj : j < 5 := hj
  have jj : j = 0 ∨ j = 1 ∨ j = 2 ∨ j = 3 ∨ j = 4 := by omega
  rcases jj with rfl | rfl | rfl | rfl | rfl
  · exact (hp [true, true, false, false, true, false, false, false, false, true])
  · exact (hp [true, true, false, false, true, false, false, false, true, false])
  · exact (hp [true, true, false, false, true, false, false, false, true, true])
  · exact (hp [true, true, false, false, true, false, false, true, false, false])
  · exact (hp [true, true, false, false, true, false, false, true, false, true]))
theorem zstr_8 {args : Array Value} {s : State} {A : Nat → Prop} (hA : ∀ a : Nat, a < s.heap.size → ¬ A a) (hp : zPm args s) : ∃ p, zSk s 8 A args p := zstr_of hA (by decide) (hp [true, true, false, false, true, false, false, true, true, false]) (hp [true, true, false, false, true, false, false, true, true, true, false]) (hp [true, true, false, false, true, false, false, true, true, true, true]) (hp [true, true, false, false, true, false, true, false, false, false]) (fun j hj => by
  have hj : j < 4 := hj
  have jj : j = 0 ∨ j = 1 ∨ j = 2 ∨ j = 3 := by omega
  rcases jj with rfl | rfl | rfl | rfl
  · exact (hp [true, true, false, false, true, false, true, false, false, true])
  · exact (hp [true, true, false, false, true, false, true, false, true, false])
  · exact (hp [true, true, false, false, true, false, true, false, true, true])
  · exact (hp [true, true, false, false, true, false, true, true, false, false]))
theorem zstr_9 {args : Array Value} {s : State} {A : Nat → Prop} (hA : ∀ a : Nat, a < s.heap.size → ¬ A a) (hp : zPm args s) : ∃ p, zSk s 9 A args p := zstr_of hA (by decide) (hp [true, true, false, false, true, false, true, true, false, true]) (hp [true, true, false, false, true, false, true, true, true, false]) (hp [true, true, false, false, true, false, true, true, true, true, false]) (hp [true, true, false, false, true, false, true, true, true, true, true]) (fun j hj => by
  have hj : j < 3 := hj
  have jj : j = 0 ∨ j = 1 ∨ j = 2 := by omega
  rcases jj with rfl | rfl | rfl
  · exact (hp [true, true, false, false, true, true, false, false, false, false])
  · exact (hp [true, true, false, false, true, true, false, false, false, true])
  · exact (hp [true, true, false, false, true, true, false, false, true, false]))
theorem zstr_10 {args : Array Value} {s : State} {A : Nat → Prop} (hA : ∀ a : Nat, a < s.heap.size → ¬ A a) (hp : zPm args s) : ∃ p, zSk s 10 A args p := zstr_of hA (by decide) (hp [true, true, false, false, true, true, false, false, true, true]) (hp [true, true, false, false, true, true, false, true, false, false]) (hp [true, true, false, false, true, true, false, true, false, true]) (hp [true, true, false, false, true, true, false, true, true, false]) (fun j hj => by
  have hj : j < 7 := hj
  have jj : j = 0 ∨ j = 1 ∨ j = 2 ∨ j = 3 ∨ j = 4 ∨ j = 5 ∨ j = 6 := by omega
  rcases jj with rfl | rfl | rfl | rfl | rfl | rfl | rfl
  · exact (hp [true, true, false, false, true, true, false, true, true, true, false])
  · exact (hp [true, true, false, false, true, true, false, true, true, true, true])
  · exact (hp [true, true, false, false, true, true, true, false, false, false])
  · exact (hp [true, true, false, false, true, true, true, false, false, true])
  · exact (hp [true, true, false, false, true, true, true, false, true, false])
  · exact (hp [true, true, false, false, true, true, true, false, true, true, false])
  · exact (hp [true, true, false, false, true, true, true, false, true, true, true]))
theorem zstr_11 {args : Array Value} {s : State} {A : Nat → Prop} (hA : ∀ a : Nat, a < s.heap.size → ¬ A a) (hp : zPm args s) : ∃ p, zSk s 11 A args p := zstr_of hA (by decide) (hp [true, true, false, false, true, true, true, true, false, false]) (hp [true, true, false, false, true, true, true, true, false, true]) (hp [true, true, false, false, true, true, true, true, true, false]) (hp [true, true, false, false, true, true, true, true, true, true, false]) (fun j hj => by
  have hj : j < 2 := hj
  have jj : j = 0 ∨ j = 1 := by omega
  rcases jj with rfl | rfl
  · exact (hp [true, true, false, false, true, true, true, true, true, true, true])
  · exact (hp [true, true, false, true, false, false, false, false, false, false]))
theorem zstr_12 {args : Array Value} {s : State} {A : Nat → Prop} (hA : ∀ a : Nat, a < s.heap.size → ¬ A a) (hp : zPm args s) : ∃ p, zSk s 12 A args p := zstr_of hA (by decide) (hp [true, true, false, true, false, false, false, false, false, true]) (hp [true, true, false, true, false, false, false, false, true, false]) (hp [true, true, false, true, false, false, false, false, true, true]) (hp [true, true, false, true, false, false, false, true, false, false]) (fun j hj => by
  have hj : j < 12 := hj
  have jj : j = 0 ∨ j = 1 ∨ j = 2 ∨ j = 3 ∨ j = 4 ∨ j = 5 ∨ j = 6 ∨ j = 7 ∨ j = 8 ∨ j = 9 ∨ j = 10 ∨ j = 11 := by omega
  rcases jj with rfl | rfl | rfl | rfl | rfl | rfl | rfl | rfl | rfl | rfl | rfl | rfl
  · exact (hp [true, true, false, true, false, false, false, true, false, true])
  · exact (hp [true, true, false, true, false, false, false, true, true, false])
  · exact (hp [true, true, false, true, false, false, false, true, true, true, false])
  · exact (hp [true, true, false, true, false, false, false, true, true, true, true])
  · exact (hp [true, true, false, true, false, false, true, false, false, false])
  · exact (hp [true, true, false, true, false, false, true, false, false, true])
  · exact (hp [true, true, false, true, false, false, true, false, true, false])
  · exact (hp [true, true, false, true, false, false, true, false, true, true])
  · exact (hp [true, true, false, true, false, false, true, true, false, false])
  · exact (hp [true, true, false, true, false, false, true, true, false, true])
  · exact (hp [true, true, false, true, false, false, true, true, true, false])
  · exact (hp [true, true, false, true, false, false, true, true, true, true, false]))
theorem zstr_13 {args : Array Value} {s : State} {A : Nat → Prop} (hA : ∀ a : Nat, a < s.heap.size → ¬ A a) (hp : zPm args s) : ∃ p, zSk s 13 A args p := zstr_of hA (by decide) (hp [true, true, false, true, false, false, true, true, true, true, true]) (hp [true, true, false, true, false, true, false, false, false, false]) (hp [true, true, false, true, false, true, false, false, false, true]) (hp [true, true, false, true, false, true, false, false, true, false]) (fun j hj => by
  have hj : j < 8 := hj
  have jj : j = 0 ∨ j = 1 ∨ j = 2 ∨ j = 3 ∨ j = 4 ∨ j = 5 ∨ j = 6 ∨ j = 7 := by omega
  rcases jj with rfl | rfl | rfl | rfl | rfl | rfl | rfl | rfl
  · exact (hp [true, true, false, true, false, true, false, false, true, true])
  · exact (hp [true, true, false, true, false, true, false, true, false, false])
  · exact (hp [true, true, false, true, false, true, false, true, false, true])
  · exact (hp [true, true, false, true, false, true, false, true, true, false])
  · exact (hp [true, true, false, true, false, true, false, true, true, true, false])
  · exact (hp [true, true, false, true, false, true, false, true, true, true, true])
  · exact (hp [true, true, false, true, false, true, true, false, false, false])
  · exact (hp [true, true, false, true, false, true, true, false, false, true]))
theorem zstr_14 {args : Array Value} {s : State} {A : Nat → Prop} (hA : ∀ a : Nat, a < s.heap.size → ¬ A a) (hp : zPm args s) : ∃ p, zSk s 14 A args p := zstr_of hA (by decide) (hp [true, true, false, true, false, true, true, false, true, false]) (hp [true, true, false, true, false, true, true, false, true, true, false]) (hp [true, true, false, true, false, true, true, false, true, true, true]) (hp [true, true, false, true, false, true, true, true, false, false]) (fun j hj => by
  have hj : j < 7 := hj
  have jj : j = 0 ∨ j = 1 ∨ j = 2 ∨ j = 3 ∨ j = 4 ∨ j = 5 ∨ j = 6 := by omega
  rcases jj with rfl | rfl | rfl | rfl | rfl | rfl | rfl
  · exact (hp [true, true, false, true, false, true, true, true, false, true])
  · exact (hp [true, true, false, true, false, true, true, true, true, false])
  · exact (hp [true, true, false, true, false, true, true, true, true, true, false])
  · exact (hp [true, true, false, true, false, true, true, true, true, true, true])
  · exact (hp [true, true, false, true, true, false, false, false, false, false])
  · exact (hp [true, true, false, true, true, false, false, false, false, true])
  · exact (hp [true, true, false, true, true, false, false, false, true, false]))
theorem zstr_15 {args : Array Value} {s : State} {A : Nat → Prop} (hA : ∀ a : Nat, a < s.heap.size → ¬ A a) (hp : zPm args s) : ∃ p, zSk s 15 A args p := zstr_of hA (by decide) (hp [true, true, false, true, true, false, false, false, true, true]) (hp [true, true, false, true, true, false, false, true, false, false]) (hp [true, true, false, true, true, false, false, true, false, true]) (hp [true, true, false, true, true, false, false, true, true, false]) (fun j hj => by
  have hj : j < 4 := hj
  have jj : j = 0 ∨ j = 1 ∨ j = 2 ∨ j = 3 := by omega
  rcases jj with rfl | rfl | rfl | rfl
  · exact (hp [true, true, false, true, true, false, false, true, true, true, false])
  · exact (hp [true, true, false, true, true, false, false, true, true, true, true])
  · exact (hp [true, true, false, true, true, false, true, false, false, false])
  · exact (hp [true, true, false, true, true, false, true, false, false, true]))
theorem zstr_16 {args : Array Value} {s : State} {A : Nat → Prop} (hA : ∀ a : Nat, a < s.heap.size → ¬ A a) (hp : zPm args s) : ∃ p, zSk s 16 A args p := zstr_of hA (by decide) (hp [true, true, false, true, true, false, true, false, true, true]) (hp [true, true, false, true, true, false, true, true, false, false]) (hp [true, true, false, true, true, false, true, true, false, true]) (hp [true, true, false, true, true, false, true, true, true, false]) (fun j hj => by
  have hj : j < 8 := hj
  have jj : j = 0 ∨ j = 1 ∨ j = 2 ∨ j = 3 ∨ j = 4 ∨ j = 5 ∨ j = 6 ∨ j = 7 := by omega
  rcases jj with rfl | rfl | rfl | rfl | rfl | rfl | rfl | rfl
  · exact (hp [true, true, false, true, true, false, true, true, true, true, false])
  · exact (hp [true, true, false, true, true, false, true, true, true, true, true])
  · exact (hp [true, true, false, true, true, true, false, false, false, false])
  · exact (hp [true, true, false, true, true, true, false, false, false, true])
  · exact (hp [true, true, false, true, true, true, false, false, true, false])
  · exact (hp [true, true, false, true, true, true, false, false, true, true])
  · exact (hp [true, true, false, true, true, true, false, true, false, false])
  · exact (hp [true, true, false, true, true, true, false, true, false, true]))
theorem zstr_17 {args : Array Value} {s : State} {A : Nat → Prop} (hA : ∀ a : Nat, a < s.heap.size → ¬ A a) (hp : zPm args s) : ∃ p, zSk s 17 A args p := zstr_of hA (by decide) (hp [true, true, false, true, true, true, false, true, true, false]) (hp [true, true, false, true, true, true, false, true, true, true, false]) (hp [true, true, false, true, true, true, false, true, true, true, true]) (hp [true, true, false, true, true, true, true, false, false, false]) (fun j hj => by
  have hj : j < 8 := hj
  have jj : j = 0 ∨ j = 1 ∨ j = 2 ∨ j = 3 ∨ j = 4 ∨ j = 5 ∨ j = 6 ∨ j = 7 := by omega
  rcases jj with rfl | rfl | rfl | rfl | rfl | rfl | rfl | rfl
  · exact (hp [true, true, false, true, true, true, true, false, false, true])
  · exact (hp [true, true, false, true, true, true, true, false, true, false])
  · exact (hp [true, true, false, true, true, true, true, false, true, true, false])
  · exact (hp [true, true, false, true, true, true, true, false, true, true, true])
  · exact (hp [true, true, false, true, true, true, true, true, false, false])
  · exact (hp [true, true, false, true, true, true, true, true, false, true])
  · exact (hp [true, true, false, true, true, true, true, true, true, false])
  · exact (hp [true, true, false, true, true, true, true, true, true, true, false]))
theorem zstr_18 {args : Array Value} {s : State} {A : Nat → Prop} (hA : ∀ a : Nat, a < s.heap.size → ¬ A a) (hp : zPm args s) : ∃ p, zSk s 18 A args p := zstr_of hA (by decide) (hp [true, true, false, true, true, true, true, true, true, true, true]) (hp [true, true, true, false, false, false, false, false, false, false]) (hp [true, true, true, false, false, false, false, false, false, true]) (hp [true, true, true, false, false, false, false, false, true, false]) (fun j hj => by
  have hj : j < 3 := hj
  have jj : j = 0 ∨ j = 1 ∨ j = 2 := by omega
  rcases jj with rfl | rfl | rfl
  · exact (hp [true, true, true, false, false, false, false, false, true, true])
  · exact (hp [true, true, true, false, false, false, false, true, false, false])
  · exact (hp [true, true, true, false, false, false, false, true, false, true]))
theorem zstr_19 {args : Array Value} {s : State} {A : Nat → Prop} (hA : ∀ a : Nat, a < s.heap.size → ¬ A a) (hp : zPm args s) : ∃ p, zSk s 19 A args p := zstr_of hA (by decide) (hp [true, true, true, false, false, false, false, true, true, false]) (hp [true, true, true, false, false, false, false, true, true, true, false]) (hp [true, true, true, false, false, false, false, true, true, true, true]) (hp [true, true, true, false, false, false, true, false, false, false]) (fun j hj => by
  have hj : j < 3 := hj
  have jj : j = 0 ∨ j = 1 ∨ j = 2 := by omega
  rcases jj with rfl | rfl | rfl
  · exact (hp [true, true, true, false, false, false, true, false, false, true])
  · exact (hp [true, true, true, false, false, false, true, false, true, false])
  · exact (hp [true, true, true, false, false, false, true, false, true, true]))
theorem zstr_20 {args : Array Value} {s : State} {A : Nat → Prop} (hA : ∀ a : Nat, a < s.heap.size → ¬ A a) (hp : zPm args s) : ∃ p, zSk s 20 A args p := zstr_of hA (by decide) (hp [true, true, true, false, false, false, true, true, false, false]) (hp [true, true, true, false, false, false, true, true, false, true]) (hp [true, true, true, false, false, false, true, true, true, false]) (hp [true, true, true, false, false, false, true, true, true, true, false]) (fun j hj => by
  have hj : j < 4 := hj
  have jj : j = 0 ∨ j = 1 ∨ j = 2 ∨ j = 3 := by omega
  rcases jj with rfl | rfl | rfl | rfl
  · exact (hp [true, true, true, false, false, false, true, true, true, true, true])
  · exact (hp [true, true, true, false, false, true, false, false, false, false])
  · exact (hp [true, true, true, false, false, true, false, false, false, true])
  · exact (hp [true, true, true, false, false, true, false, false, true, false]))
theorem zstr_21 {args : Array Value} {s : State} {A : Nat → Prop} (hA : ∀ a : Nat, a < s.heap.size → ¬ A a) (hp : zPm args s) : ∃ p, zSk s 21 A args p := zstr_of hA (by decide) (hp [true, true, true, false, false, true, false, false, true, true]) (hp [true, true, true, false, false, true, false, true, false, false]) (hp [true, true, true, false, false, true, false, true, false, true]) (hp [true, true, true, false, false, true, false, true, true, false]) (fun j hj => by
  have hj : j < 5 := hj
  have jj : j = 0 ∨ j = 1 ∨ j = 2 ∨ j = 3 ∨ j = 4 := by omega
  rcases jj with rfl | rfl | rfl | rfl | rfl
  · exact (hp [true, true, true, false, false, true, false, true, true, true, false])
  · exact (hp [true, true, true, false, false, true, false, true, true, true, true])
  · exact (hp [true, true, true, false, false, true, true, false, false, false])
  · exact (hp [true, true, true, false, false, true, true, false, false, true])
  · exact (hp [true, true, true, false, false, true, true, false, true, false]))
theorem zstr_22 {args : Array Value} {s : State} {A : Nat → Prop} (hA : ∀ a : Nat, a < s.heap.size → ¬ A a) (hp : zPm args s) : ∃ p, zSk s 22 A args p := zstr_of hA (by decide) (hp [true, true, true, false, false, true, true, false, true, true, false]) (hp [true, true, true, false, false, true, true, false, true, true, true]) (hp [true, true, true, false, false, true, true, true, false, false]) (hp [true, true, true, false, false, true, true, true, false, true]) (fun j hj => by
  have hj : j < 7 := hj
  have jj : j = 0 ∨ j = 1 ∨ j = 2 ∨ j = 3 ∨ j = 4 ∨ j = 5 ∨ j = 6 := by omega
  rcases jj with rfl | rfl | rfl | rfl | rfl | rfl | rfl
  · exact (hp [true, true, true, false, false, true, true, true, true, false])
  · exact (hp [true, true, true, false, false, true, true, true, true, true, false])
  · exact (hp [true, true, true, false, false, true, true, true, true, true, true])
  · exact (hp [true, true, true, false, true, false, false, false, false, false])
  · exact (hp [true, true, true, false, true, false, false, false, false, true])
  · exact (hp [true, true, true, false, true, false, false, false, true, false])
  · exact (hp [true, true, true, false, true, false, false, false, true, true]))
theorem zstr_23 {args : Array Value} {s : State} {A : Nat → Prop} (hA : ∀ a : Nat, a < s.heap.size → ¬ A a) (hp : zPm args s) : ∃ p, zSk s 23 A args p := zstr_of hA (by decide) (hp [true, true, true, false, true, false, false, true, false, false]) (hp [true, true, true, false, true, false, false, true, false, true]) (hp [true, true, true, false, true, false, false, true, true, false]) (hp [true, true, true, false, true, false, false, true, true, true, false]) (fun j hj => by
  have hj : j < 6 := hj
  have jj : j = 0 ∨ j = 1 ∨ j = 2 ∨ j = 3 ∨ j = 4 ∨ j = 5 := by omega
  rcases jj with rfl | rfl | rfl | rfl | rfl | rfl
  · exact (hp [true, true, true, false, true, false, false, true, true, true, true])
  · exact (hp [true, true, true, false, true, false, true, false, false, false])
  · exact (hp [true, true, true, false, true, false, true, false, false, true])
  · exact (hp [true, true, true, false, true, false, true, false, true, false])
  · exact (hp [true, true, true, false, true, false, true, false, true, true])
  · exact (hp [true, true, true, false, true, false, true, true, false, false]))
theorem zstr_24 {args : Array Value} {s : State} {A : Nat → Prop} (hA : ∀ a : Nat, a < s.heap.size → ¬ A a) (hp : zPm args s) : ∃ p, zSk s 24 A args p := zstr_of hA (by decide) (hp [true, true, true, false, true, false, true, true, false, true]) (hp [true, true, true, false, true, false, true, true, true, false]) (hp [true, true, true, false, true, false, true, true, true, true, false]) (hp [true, true, true, false, true, false, true, true, true, true, true]) (fun j hj => by
  have hj : j < 7 := hj
  have jj : j = 0 ∨ j = 1 ∨ j = 2 ∨ j = 3 ∨ j = 4 ∨ j = 5 ∨ j = 6 := by omega
  rcases jj with rfl | rfl | rfl | rfl | rfl | rfl | rfl
  · exact (hp [true, true, true, false, true, true, false, false, false, false])
  · exact (hp [true, true, true, false, true, true, false, false, false, true])
  · exact (hp [true, true, true, false, true, true, false, false, true, false])
  · exact (hp [true, true, true, false, true, true, false, false, true, true])
  · exact (hp [true, true, true, false, true, true, false, true, false, false])
  · exact (hp [true, true, true, false, true, true, false, true, false, true])
  · exact (hp [true, true, true, false, true, true, false, true, true, false]))
theorem zstr_25 {args : Array Value} {s : State} {A : Nat → Prop} (hA : ∀ a : Nat, a < s.heap.size → ¬ A a) (hp : zPm args s) : ∃ p, zSk s 25 A args p := zstr_of hA (by decide) (hp [true, true, true, false, true, true, false, true, true, true, false]) (hp [true, true, true, false, true, true, false, true, true, true, true]) (hp [true, true, true, false, true, true, true, false, false, false]) (hp [true, true, true, false, true, true, true, false, false, true]) (fun j hj => by
  have hj : j < 7 := hj
  have jj : j = 0 ∨ j = 1 ∨ j = 2 ∨ j = 3 ∨ j = 4 ∨ j = 5 ∨ j = 6 := by omega
  rcases jj with rfl | rfl | rfl | rfl | rfl | rfl | rfl
  · exact (hp [true, true, true, false, true, true, true, false, true, false])
  · exact (hp [true, true, true, false, true, true, true, false, true, true, false])
  · exact (hp [true, true, true, false, true, true, true, false, true, true, true])
  · exact (hp [true, true, true, false, true, true, true, true, false, false])
  · exact (hp [true, true, true, false, true, true, true, true, false, true])
  · exact (hp [true, true, true, false, true, true, true, true, true, false])
  · exact (hp [true, true, true, false, true, true, true, true, true, true, false]))
theorem zstr_26 {args : Array Value} {s : State} {A : Nat → Prop} (hA : ∀ a : Nat, a < s.heap.size → ¬ A a) (hp : zPm args s) : ∃ p, zSk s 26 A args p := zstr_of hA (by decide) (hp [true, true, true, false, true, true, true, true, true, true, true]) (hp [true, true, true, true, false, false, false, false, false, false]) (hp [true, true, true, true, false, false, false, false, false, true]) (hp [true, true, true, true, false, false, false, false, true, false]) (fun j hj => by
  have hj : j < 7 := hj
  have jj : j = 0 ∨ j = 1 ∨ j = 2 ∨ j = 3 ∨ j = 4 ∨ j = 5 ∨ j = 6 := by omega
  rcases jj with rfl | rfl | rfl | rfl | rfl | rfl | rfl
  · exact (hp [true, true, true, true, false, false, false, false, true, true])
  · exact (hp [true, true, true, true, false, false, false, true, false, false])
  · exact (hp [true, true, true, true, false, false, false, true, false, true])
  · exact (hp [true, true, true, true, false, false, false, true, true, false])
  · exact (hp [true, true, true, true, false, false, false, true, true, true, false])
  · exact (hp [true, true, true, true, false, false, false, true, true, true, true])
  · exact (hp [true, true, true, true, false, false, true, false, false, false]))
theorem zstr_27 {args : Array Value} {s : State} {A : Nat → Prop} (hA : ∀ a : Nat, a < s.heap.size → ¬ A a) (hp : zPm args s) : ∃ p, zSk s 27 A args p := zstr_of hA (by decide) (hp [true, true, true, true, false, false, true, false, false, true]) (hp [true, true, true, true, false, false, true, false, true, false]) (hp [true, true, true, true, false, false, true, false, true, true]) (hp [true, true, true, true, false, false, true, true, false, false]) (fun j hj => by
  have hj : j < 8 := hj
  have jj : j = 0 ∨ j = 1 ∨ j = 2 ∨ j = 3 ∨ j = 4 ∨ j = 5 ∨ j = 6 ∨ j = 7 := by omega
  rcases jj with rfl | rfl | rfl | rfl | rfl | rfl | rfl | rfl
  · exact (hp [true, true, true, true, false, false, true, true, false, true])
  · exact (hp [true, true, true, true, false, false, true, true, true, false])
  · exact (hp [true, true, true, true, false, false, true, true, true, true, false])
  · exact (hp [true, true, true, true, false, false, true, true, true, true, true])
  · exact (hp [true, true, true, true, false, true, false, false, false, false])
  · exact (hp [true, true, true, true, false, true, false, false, false, true])
  · exact (hp [true, true, true, true, false, true, false, false, true, false])
  · exact (hp [true, true, true, true, false, true, false, false, true, true]))
theorem zstr_28 {args : Array Value} {s : State} {A : Nat → Prop} (hA : ∀ a : Nat, a < s.heap.size → ¬ A a) (hp : zPm args s) : ∃ p, zSk s 28 A args p := zstr_of hA (by decide) (hp [true, true, true, true, false, true, false, true, false, false]) (hp [true, true, true, true, false, true, false, true, false, true]) (hp [true, true, true, true, false, true, false, true, true, false]) (hp [true, true, true, true, false, true, false, true, true, true, false]) (fun j hj => by
  have hj : j < 7 := hj
  have jj : j = 0 ∨ j = 1 ∨ j = 2 ∨ j = 3 ∨ j = 4 ∨ j = 5 ∨ j = 6 := by omega
  rcases jj with rfl | rfl | rfl | rfl | rfl | rfl | rfl
  · exact (hp [true, true, true, true, false, true, false, true, true, true, true])
  · exact (hp [true, true, true, true, false, true, true, false, false, false])
  · exact (hp [true, true, true, true, false, true, true, false, false, true])
  · exact (hp [true, true, true, true, false, true, true, false, true, false])
  · exact (hp [true, true, true, true, false, true, true, false, true, true, false])
  · exact (hp [true, true, true, true, false, true, true, false, true, true, true])
  · exact (hp [true, true, true, true, false, true, true, true, false, false]))
theorem zstr_29 {args : Array Value} {s : State} {A : Nat → Prop} (hA : ∀ a : Nat, a < s.heap.size → ¬ A a) (hp : zPm args s) : ∃ p, zSk s 29 A args p := zstr_of hA (by decide) (hp [true, true, true, true, false, true, true, true, false, true]) (hp [true, true, true, true, false, true, true, true, true, false]) (hp [true, true, true, true, false, true, true, true, true, true, false]) (hp [true, true, true, true, false, true, true, true, true, true, true]) (fun j hj => by
  have hj : j < 6 := hj
  have jj : j = 0 ∨ j = 1 ∨ j = 2 ∨ j = 3 ∨ j = 4 ∨ j = 5 := by omega
  rcases jj with rfl | rfl | rfl | rfl | rfl | rfl
  · exact (hp [true, true, true, true, true, false, false, false, false, false])
  · exact (hp [true, true, true, true, true, false, false, false, false, true])
  · exact (hp [true, true, true, true, true, false, false, false, true, false])
  · exact (hp [true, true, true, true, true, false, false, false, true, true])
  · exact (hp [true, true, true, true, true, false, false, true, false, false])
  · exact (hp [true, true, true, true, true, false, false, true, false, true]))
theorem zstr_30 {args : Array Value} {s : State} {A : Nat → Prop} (hA : ∀ a : Nat, a < s.heap.size → ¬ A a) (hp : zPm args s) : ∃ p, zSk s 30 A args p := zstr_of hA (by decide) (hp [true, true, true, true, true, false, false, true, true, false]) (hp [true, true, true, true, true, false, false, true, true, true, false]) (hp [true, true, true, true, true, false, false, true, true, true, true]) (hp [true, true, true, true, true, false, true, false, false, false]) (fun j hj => by
  have hj : j < 6 := hj
  have jj : j = 0 ∨ j = 1 ∨ j = 2 ∨ j = 3 ∨ j = 4 ∨ j = 5 := by omega
  rcases jj with rfl | rfl | rfl | rfl | rfl | rfl
  · exact (hp [true, true, true, true, true, false, true, false, false, true])
  · exact (hp [true, true, true, true, true, false, true, false, true, false])
  · exact (hp [true, true, true, true, true, false, true, false, true, true])
  · exact (hp [true, true, true, true, true, false, true, true, false, false])
  · exact (hp [true, true, true, true, true, false, true, true, false, true])
  · exact (hp [true, true, true, true, true, false, true, true, true, false]))
theorem zstr_31 {args : Array Value} {s : State} {A : Nat → Prop} (hA : ∀ a : Nat, a < s.heap.size → ¬ A a) (hp : zPm args s) : ∃ p, zSk s 31 A args p := zstr_of hA (by decide) (hp [true, true, true, true, true, false, true, true, true, true, false]) (hp [true, true, true, true, true, false, true, true, true, true, true]) (hp [true, true, true, true, true, true, false, false, false, false]) (hp [true, true, true, true, true, true, false, false, false, true]) (fun j hj => by
  have hj : j < 5 := hj
  have jj : j = 0 ∨ j = 1 ∨ j = 2 ∨ j = 3 ∨ j = 4 := by omega
  rcases jj with rfl | rfl | rfl | rfl | rfl
  · exact (hp [true, true, true, true, true, true, false, false, true, false])
  · exact (hp [true, true, true, true, true, true, false, false, true, true])
  · exact (hp [true, true, true, true, true, true, false, true, false, false])
  · exact (hp [true, true, true, true, true, true, false, true, false, true])
  · exact (hp [true, true, true, true, true, true, false, true, true, false]))
theorem zstr_32 {args : Array Value} {s : State} {A : Nat → Prop} (hA : ∀ a : Nat, a < s.heap.size → ¬ A a) (hp : zPm args s) : ∃ p, zSk s 32 A args p := zstr_of hA (by decide) (hp [true, true, true, true, true, true, false, true, true, true, false]) (hp [true, true, true, true, true, true, false, true, true, true, true]) (hp [true, true, true, true, true, true, true, false, false, false]) (hp [true, true, true, true, true, true, true, false, false, true]) (fun j hj => by
  have hj : j < 7 := hj
  have jj : j = 0 ∨ j = 1 ∨ j = 2 ∨ j = 3 ∨ j = 4 ∨ j = 5 ∨ j = 6 := by omega
  rcases jj with rfl | rfl | rfl | rfl | rfl | rfl | rfl
  · exact (hp [true, true, true, true, true, true, true, false, true, false])
  · exact (hp [true, true, true, true, true, true, true, false, true, true, false])
  · exact (hp [true, true, true, true, true, true, true, false, true, true, true])
  · exact (hp [true, true, true, true, true, true, true, true, false, false])
  · exact (hp [true, true, true, true, true, true, true, true, false, true])
  · exact (hp [true, true, true, true, true, true, true, true, true, false])
  · exact (hp [true, true, true, true, true, true, true, true, true, true, false]))
theorem zstr_33 {args : Array Value} {s : State} {A : Nat → Prop} (hA : ∀ a : Nat, a < s.heap.size → ¬ A a) (hp : zPm args s) : ∃ p, zSk s 33 A args p := zstr_of hA (by decide) (hp [true, false, true, true, true, false, true, false, true, false]) (hp [true, false, true, true, true, false, true, false, true, true]) (hp [true, false, true, true, true, false, true, true, false, false]) (hp [true, false, true, true, true, false, true, true, false, true]) (fun j hj => absurd hj (Nat.not_lt_zero j))
theorem zstr_all {args : Array Value} {s : State} {A : Nat → Prop} (hA : ∀ a : Nat, a < s.heap.size → ¬ A a) (hp : zPm args s) (k : Nat) (hk : k < 34) : ∃ p, zSk s k A args p := by
  have jj : k = 0 ∨ k = 1 ∨ k = 2 ∨ k = 3 ∨ k = 4 ∨ k = 5 ∨ k = 6 ∨ k = 7 ∨ k = 8 ∨ k = 9 ∨ k = 10 ∨ k = 11 ∨ k = 12 ∨ k = 13 ∨ k = 14 ∨ k = 15 ∨ k = 16 ∨ k = 17 ∨ k = 18 ∨ k = 19 ∨ k = 20 ∨ k = 21 ∨ k = 22 ∨ k = 23 ∨ k = 24 ∨ k = 25 ∨ k = 26 ∨ k = 27 ∨ k = 28 ∨ k = 29 ∨ k = 30 ∨ k = 31 ∨ k = 32 ∨ k = 33 := by omega
  rcases jj with rfl | rfl | rfl | rfl | rfl | rfl | rfl | rfl | rfl | rfl | rfl | rfl | rfl | rfl | rfl | rfl | rfl | rfl | rfl | rfl | rfl | rfl | rfl | rfl | rfl | rfl | rfl | rfl | rfl | rfl | rfl | rfl | rfl | rfl
  · exact zstr_0 hA hp
  · exact zstr_1 hA hp
  · exact zstr_2 hA hp
  · exact zstr_3 hA hp
  · exact zstr_4 hA hp
  · exact zstr_5 hA hp
  · exact zstr_6 hA hp
  · exact zstr_7 hA hp
  · exact zstr_8 hA hp
  · exact zstr_9 hA hp
  · exact zstr_10 hA hp
  · exact zstr_11 hA hp
  · exact zstr_12 hA hp
  · exact zstr_13 hA hp
  · exact zstr_14 hA hp
  · exact zstr_15 hA hp
  · exact zstr_16 hA hp
  · exact zstr_17 hA hp
  · exact zstr_18 hA hp
  · exact zstr_19 hA hp
  · exact zstr_20 hA hp
  · exact zstr_21 hA hp
  · exact zstr_22 hA hp
  · exact zstr_23 hA hp
  · exact zstr_24 hA hp
  · exact zstr_25 hA hp
  · exact zstr_26 hA hp
  · exact zstr_27 hA hp
  · exact zstr_28 hA hp
  · exact zstr_29 hA hp
  · exact zstr_30 hA hp
  · exact zstr_31 hA hp
  · exact zstr_32 hA hp
  · exact zstr_33 hA hp
/-- an enum constant -/
def zEk (s : State) (i : Nat) (args : Array Value) : Prop := (Cond.exactly (ztV_ i) "MailSessions$Verb").before args s = true ∧ (Cond.eq (.field (ztV_ i) "java/lang/Enum" "ordinal" "I") (.int (nI i))).before args s = true ∧ (Cond.eq (.field (ztV_ i) "MailSessions$Verb" "word" "Ljava/lang/String;") (ztS_ (20 + i))).before args s = true ∧ ∀ j, j < 4 → (Cond.eq (.field (ztV_ i) "MailSessions$Verb" (zVf j) "Z") (.int ((zVb j).getD i 0))).before args s = true
theorem zek_0 {args : Array Value} {s : State} (hp : zPm args s) : zEk s 0 args := ⟨(hp [true, false, false, false, true, false, false, true, true, true, false]), (hp [true, false, false, false, true, false, false, true, true, true, true]), (hp [true, false, false, false, true, false, true, false, false, false]), fun j hj => by
  have jj : j = 0 ∨ j = 1 ∨ j = 2 ∨ j = 3 := by omega
  rcases jj with rfl | rfl | rfl | rfl
  · exact (hp [true, false, false, false, true, false, true, false, false, true])
  · exact (hp [true, false, false, false, true, false, true, false, true, false])
  · exact (hp [true, false, false, false, true, false, true, false, true, true])
  · exact (hp [true, false, false, false, true, false, true, true, false, false])⟩
theorem zek_1 {args : Array Value} {s : State} (hp : zPm args s) : zEk s 1 args := ⟨(hp [true, false, false, false, true, false, true, true, false, true]), (hp [true, false, false, false, true, false, true, true, true, false]), (hp [true, false, false, false, true, false, true, true, true, true, false]), fun j hj => by
  have jj : j = 0 ∨ j = 1 ∨ j = 2 ∨ j = 3 := by omega
  rcases jj with rfl | rfl | rfl | rfl
  · exact (hp [true, false, false, false, true, false, true, true, true, true, true])
  · exact (hp [true, false, false, false, true, true, false, false, false, false])
  · exact (hp [true, false, false, false, true, true, false, false, false, true])
  · exact (hp [true, false, false, false, true, true, false, false, true, false])⟩
theorem zek_2 {args : Array Value} {s : State} (hp : zPm args s) : zEk s 2 args := ⟨(hp [true, false, false, false, true, true, false, true, false, false]), (hp [true, false, false, false, true, true, false, true, false, true]), (hp [true, false, false, false, true, true, false, true, true, false]), fun j hj => by
  have jj : j = 0 ∨ j = 1 ∨ j = 2 ∨ j = 3 := by omega
  rcases jj with rfl | rfl | rfl | rfl
  · exact (hp [true, false, false, false, true, true, false, true, true, true, false])
  · exact (hp [true, false, false, false, true, true, false, true, true, true, true])
  · exact (hp [true, false, false, false, true, true, true, false, false, false])
  · exact (hp [true, false, false, false, true, true, true, false, false, true])⟩
theorem zek_3 {args : Array Value} {s : State} (hp : zPm args s) : zEk s 3 args := ⟨(hp [true, false, false, false, true, true, true, false, true, true, true]), (hp [true, false, false, false, true, true, true, true, false, false]), (hp [true, false, false, false, true, true, true, true, false, true]), fun j hj => by
  have jj : j = 0 ∨ j = 1 ∨ j = 2 ∨ j = 3 := by omega
  rcases jj with rfl | rfl | rfl | rfl
  · exact (hp [true, false, false, false, true, true, true, true, true, false])
  · exact (hp [true, false, false, false, true, true, true, true, true, true, false])
  · exact (hp [true, false, false, false, true, true, true, true, true, true, true])
  · exact (hp [true, false, false, true, false, false, false, false, false, false])⟩
theorem zek_4 {args : Array Value} {s : State} (hp : zPm args s) : zEk s 4 args := ⟨(hp [true, false, false, true, false, false, false, true, false, false]), (hp [true, false, false, true, false, false, false, true, false, true]), (hp [true, false, false, true, false, false, false, true, true, false]), fun j hj => by
  have jj : j = 0 ∨ j = 1 ∨ j = 2 ∨ j = 3 := by omega
  rcases jj with rfl | rfl | rfl | rfl
  · exact (hp [true, false, false, true, false, false, false, true, true, true, false])
  · exact (hp [true, false, false, true, false, false, false, true, true, true, true])
  · exact (hp [true, false, false, true, false, false, true, false, false, false])
  · exact (hp [true, false, false, true, false, false, true, false, false, true])⟩
theorem zek_5 {args : Array Value} {s : State} (hp : zPm args s) : zEk s 5 args := ⟨(hp [true, false, false, true, false, false, true, true, true, false]), (hp [true, false, false, true, false, false, true, true, true, true, false]), (hp [true, false, false, true, false, false, true, true, true, true, true]), fun j hj => by
  have jj : j = 0 ∨ j = 1 ∨ j = 2 ∨ j = 3 := by omega
  rcases jj with rfl | rfl | rfl | rfl
  · exact (hp [true, false, false, true, false, true, false, false, false, false])
  · exact (hp [true, false, false, true, false, true, false, false, false, true])
  · exact (hp [true, false, false, true, false, true, false, false, true, false])
  · exact (hp [true, false, false, true, false, true, false, false, true, true])⟩
theorem zek_6 {args : Array Value} {s : State} (hp : zPm args s) : zEk s 6 args := ⟨(hp [true, false, false, true, false, true, true, false, false, false]), (hp [true, false, false, true, false, true, true, false, false, true]), (hp [true, false, false, true, false, true, true, false, true, false]), fun j hj => by
  have jj : j = 0 ∨ j = 1 ∨ j = 2 ∨ j = 3 := by omega
  rcases jj with rfl | rfl | rfl | rfl
  · exact (hp [true, false, false, true, false, true, true, false, true, true, false])
  · exact (hp [true, false, false, true, false, true, true, false, true, true, true])
  · exact (hp [true, false, false, true, false, true, true, true, false, false])
  · exact (hp [true, false, false, true, false, true, true, true, false, true])⟩
theorem zek_7 {args : Array Value} {s : State} (hp : zPm args s) : zEk s 7 args := ⟨(hp [true, false, false, true, true, false, false, false, true, true]), (hp [true, false, false, true, true, false, false, true, false, false]), (hp [true, false, false, true, true, false, false, true, false, true]), fun j hj => by
  have jj : j = 0 ∨ j = 1 ∨ j = 2 ∨ j = 3 := by omega
  rcases jj with rfl | rfl | rfl | rfl
  · exact (hp [true, false, false, true, true, false, false, true, true, false])
  · exact (hp [true, false, false, true, true, false, false, true, true, true, false])
  · exact (hp [true, false, false, true, true, false, false, true, true, true, true])
  · exact (hp [true, false, false, true, true, false, true, false, false, false])⟩
theorem zek_8 {args : Array Value} {s : State} (hp : zPm args s) : zEk s 8 args := ⟨(hp [true, false, false, true, true, false, true, true, true, true, true]), (hp [true, false, false, true, true, true, false, false, false, false]), (hp [true, false, false, true, true, true, false, false, false, true]), fun j hj => by
  have jj : j = 0 ∨ j = 1 ∨ j = 2 ∨ j = 3 := by omega
  rcases jj with rfl | rfl | rfl | rfl
  · exact (hp [true, false, false, true, true, true, false, false, true, false])
  · exact (hp [true, false, false, true, true, true, false, false, true, true])
  · exact (hp [true, false, false, true, true, true, false, true, false, false])
  · exact (hp [true, false, false, true, true, true, false, true, false, true])⟩
theorem zek_9 {args : Array Value} {s : State} (hp : zPm args s) : zEk s 9 args := ⟨(hp [true, false, false, true, true, true, true, true, false, false]), (hp [true, false, false, true, true, true, true, true, false, true]), (hp [true, false, false, true, true, true, true, true, true, false]), fun j hj => by
  have jj : j = 0 ∨ j = 1 ∨ j = 2 ∨ j = 3 := by omega
  rcases jj with rfl | rfl | rfl | rfl
  · exact (hp [true, false, false, true, true, true, true, true, true, true, false])
  · exact (hp [true, false, false, true, true, true, true, true, true, true, true])
  · exact (hp [true, false, true, false, false, false, false, false, false, false])
  · exact (hp [true, false, true, false, false, false, false, false, false, true])⟩
theorem zek_10 {args : Array Value} {s : State} (hp : zPm args s) : zEk s 10 args := ⟨(hp [true, false, true, false, false, false, true, false, true, false]), (hp [true, false, true, false, false, false, true, false, true, true]), (hp [true, false, true, false, false, false, true, true, false, false]), fun j hj => by
  have jj : j = 0 ∨ j = 1 ∨ j = 2 ∨ j = 3 := by omega
  rcases jj with rfl | rfl | rfl | rfl
  · exact (hp [true, false, true, false, false, false, true, true, false, true])
  · exact (hp [true, false, true, false, false, false, true, true, true, false])
  · exact (hp [true, false, true, false, false, false, true, true, true, true, false])
  · exact (hp [true, false, true, false, false, false, true, true, true, true, true])⟩
theorem zek_11 {args : Array Value} {s : State} (hp : zPm args s) : zEk s 11 args := ⟨(hp [true, false, true, false, false, true, true, false, false, true]), (hp [true, false, true, false, false, true, true, false, true, false]), (hp [true, false, true, false, false, true, true, false, true, true]), fun j hj => by
  have jj : j = 0 ∨ j = 1 ∨ j = 2 ∨ j = 3 := by omega
  rcases jj with rfl | rfl | rfl | rfl
  · exact (hp [true, false, true, false, false, true, true, true, false, false])
  · exact (hp [true, false, true, false, false, true, true, true, false, true])
  · exact (hp [true, false, true, false, false, true, true, true, true, false])
  · exact (hp [true, false, true, false, false, true, true, true, true, true, false])⟩
theorem zek_12 {args : Array Value} {s : State} (hp : zPm args s) : zEk s 12 args := ⟨(hp [true, false, true, false, true, false, true, false, false, true]), (hp [true, false, true, false, true, false, true, false, true, false]), (hp [true, false, true, false, true, false, true, false, true, true]), fun j hj => by
  have jj : j = 0 ∨ j = 1 ∨ j = 2 ∨ j = 3 := by omega
  rcases jj with rfl | rfl | rfl | rfl
  · exact (hp [true, false, true, false, true, false, true, true, false, false])
  · exact (hp [true, false, true, false, true, false, true, true, false, true])
  · exact (hp [true, false, true, false, true, false, true, true, true, false])
  · exact (hp [true, false, true, false, true, false, true, true, true, true, false])⟩
theorem zek_all {args : Array Value} {s : State} (hp : zPm args s) (k : Nat) (hk : k < 13) : zEk s k args := by
  have jj : k = 0 ∨ k = 1 ∨ k = 2 ∨ k = 3 ∨ k = 4 ∨ k = 5 ∨ k = 6 ∨ k = 7 ∨ k = 8 ∨ k = 9 ∨ k = 10 ∨ k = 11 ∨ k = 12 := by omega
  rcases jj with rfl | rfl | rfl | rfl | rfl | rfl | rfl | rfl | rfl | rfl | rfl | rfl | rfl
  · exact zek_0 hp
  · exact zek_1 hp
  · exact zek_2 hp
  · exact zek_3 hp
  · exact zek_4 hp
  · exact zek_5 hp
  · exact zek_6 hp
  · exact zek_7 hp
  · exact zek_8 hp
  · exact zek_9 hp
  · exact zek_10 hp
  · exact zek_11 hp
  · exact zek_12 hp
theorem zar_1 {args : Array Value} {s : State} (hp : zPm args s) : (Cond.arrayOf ztA_ (.object "MailSessions$Verb")).before args s = true ∧ (Cond.eq (.length ztA_) (.int (Int32.ofNat 13))).before args s = true ∧ ∀ j, j < 13 → (Cond.eq (.elem ztA_ (.int (Int32.ofNat j))) (ztV_ j)).before args s = true := ⟨(hp [true, false, false, false, false, false, true, false, true, false]), (hp [true, false, false, false, false, false, true, false, true, true]), fun j hj => by
  have jj : j = 0 ∨ j = 1 ∨ j = 2 ∨ j = 3 ∨ j = 4 ∨ j = 5 ∨ j = 6 ∨ j = 7 ∨ j = 8 ∨ j = 9 ∨ j = 10 ∨ j = 11 ∨ j = 12 := by omega
  rcases jj with rfl | rfl | rfl | rfl | rfl | rfl | rfl | rfl | rfl | rfl | rfl | rfl | rfl
  · exact (hp [true, false, false, false, false, false, true, true, false, true])
  · exact (hp [true, false, false, false, false, false, true, true, true, false])
  · exact (hp [true, false, false, false, false, false, true, true, true, true, false])
  · exact (hp [true, false, false, false, false, false, true, true, true, true, true])
  · exact (hp [true, false, false, false, false, true, false, false, false, false])
  · exact (hp [true, false, false, false, false, true, false, false, false, true])
  · exact (hp [true, false, false, false, false, true, false, false, true, false])
  · exact (hp [true, false, false, false, false, true, false, false, true, true])
  · exact (hp [true, false, false, false, false, true, false, true, false, false])
  · exact (hp [true, false, false, false, false, true, false, true, false, true])
  · exact (hp [true, false, false, false, false, true, false, true, true, false])
  · exact (hp [true, false, false, false, false, true, false, true, true, true, false])
  · exact (hp [true, false, false, false, false, true, false, true, true, true, true])⟩
theorem zar_2 {args : Array Value} {s : State} (hp : zPm args s) : (Cond.arrayOf ztW_ .int).before args s = true ∧ (Cond.eq (.length ztW_) (.int (Int32.ofNat 13))).before args s = true ∧ ∀ j, j < 13 → (Cond.eq (.elem ztW_ (.int (Int32.ofNat j))) (.int (zSw.getD j 0))).before args s = true := ⟨(hp [true, false, false, false, false, true, true, false, false, true]), (hp [true, false, false, false, false, true, true, false, true, false]), fun j hj => by
  have jj : j = 0 ∨ j = 1 ∨ j = 2 ∨ j = 3 ∨ j = 4 ∨ j = 5 ∨ j = 6 ∨ j = 7 ∨ j = 8 ∨ j = 9 ∨ j = 10 ∨ j = 11 ∨ j = 12 := by omega
  rcases jj with rfl | rfl | rfl | rfl | rfl | rfl | rfl | rfl | rfl | rfl | rfl | rfl | rfl
  · exact (hp [true, false, false, false, false, true, true, false, true, true])
  · exact (hp [true, false, false, false, false, true, true, true, false, false])
  · exact (hp [true, false, false, false, false, true, true, true, false, true])
  · exact (hp [true, false, false, false, false, true, true, true, true, false])
  · exact (hp [true, false, false, false, false, true, true, true, true, true, false])
  · exact (hp [true, false, false, false, false, true, true, true, true, true, true])
  · exact (hp [true, false, false, false, true, false, false, false, false, false])
  · exact (hp [true, false, false, false, true, false, false, false, false, true])
  · exact (hp [true, false, false, false, true, false, false, false, true, false])
  · exact (hp [true, false, false, false, true, false, false, false, true, true])
  · exact (hp [true, false, false, false, true, false, false, true, false, false])
  · exact (hp [true, false, false, false, true, false, false, true, false, true])
  · exact (hp [true, false, false, false, true, false, false, true, true, false])⟩
theorem zar_3 {args : Array Value} {s : State} (hp : zPm args s) : (Cond.eq (.static "java/lang/String" "COMPACT_STRINGS" "Z") (.int 1)).before args s = true ∧ (Cond.isRef (.static "jdk/internal/util/Preconditions" "SIOOBE_FORMATTER" "Ljava/util/function/BiFunction;")).before args s = true ∧ (Cond.isRef (.static Bundle.tN "UNASSIGNED_STACK" Bundle.steD)).before args s = true ∧ (Cond.isRef (.static Bundle.tN "SUPPRESSED_SENTINEL" Bundle.listD)).before args s = true := ⟨(hp [true, false, false, false, false, false, false, true, false, false]), (hp [true, false, false, false, false, false, false, true, true, true, true]), (hp [true, false, false, false, false, false, false, false, true, false]), (hp [true, false, false, false, false, false, false, false, true, true])⟩
theorem zar_4 {args : Array Value} {s : State} (hp : zPm args s) : (Cond.not (.castable "java/lang/IllegalArgumentException" "java/lang/IllegalStateException")).before args s = true ∧ (Cond.not (.castable "java/lang/IllegalArgumentException" "java/lang/IndexOutOfBoundsException")).before args s = true ∧ (Cond.not (.castable "java/lang/IllegalStateException" "java/lang/IndexOutOfBoundsException")).before args s = true := ⟨(hp [true, false, true, true, false, false, true, true, false, false]), (hp [true, false, true, false, true, true, true, true, true, true, true]), (hp [true, false, true, false, true, true, true, true, true, true, false])⟩
