/-! ===== the abstract calls ===== -/
def zsn (p : Int32) : Option Nat := if p = nI 0 then some 0 else if p = nI 1 then some 1 else if p = nI 2 then some 2 else none
def zbn (p : Int32) : Option Nat := if p = nI 0 then some 0 else if p = nI 1 then some 1 else if p = nI 2 then some 2 else if p = nI 3 then some 3 else none
def zbt (q : Int32) (i : Nat) : Nat := q.toBitVec.toNat / 2 ^ (8 * i) % 256
def zby (q : Int32) : List Nat := ([zbt q 0, zbt q 1, zbt q 2, zbt q 3]).takeWhile fun b => decide (b ≠ 0)
def zbad (b : Nat) : Bool := decide (b < 32 ∨ 126 < b)
/-- an index below n -/
def zix (i : Int32) (n : Nat) : Option Nat := if i < 0 then none else if i.toNatClampNeg < n then some i.toNatClampNeg else none
def zaTy (A : zAS) (p q : Int32) : Nat × Bool × zAS := match zsn p with
  | none => (1, false, A)
  | some s => if zaC A s = false then (2, false, A) else if (zby q).any zbad then (3, false, A) else if 48 < (zaL A s).length + (zby q).length then (0, false, A) else (0, true, zsS A s (zaC A s, zaQ A s, zaV A s, zaT A s, zaL A s ++ zby q))
def zcC (A : zAS) (p : Int32) : Nat × zAS := match zsn p with
  | none => (1, A)
  | some s => if zaC A s then (2, A) else (0, zsS A s (true, none, [], zaT A s, []))
def zcR (A : zAS) (p : Int32) : Nat × Nat := match zsn p with
  | none => (1, 0)
  | some s => (0, (zaT A s).length)
def zcY (A : zAS) (p i : Int32) : Nat × Nat := match zsn p with
  | none => (1, 0)
  | some s => match zix i (zaT A s).length with
    | none => (1, 0)
    | some k => (0, (zaT A s)[k]?.getD 0)
def zcV (A : zAS) (p : Int32) : Int32 := match zsn p with
  | none => -1
  | some s => if (zaQ A s).isSome then nI (zaV A s).length else -1
def zcM (A : zAS) (p : Int32) : Int32 := match zbn p with
  | none => -1
  | some b => if (A.1 b).1 = 0 then -1 else nI (zaM A b).length
def zcG (A : zAS) (p i w : Int32) : Nat × Nat := match zbn p with
  | none => (1, 0)
  | some b => if (A.1 b).1 = 0 then (1, 0) else match zix i (zaM A b).length with
    | none => (1, 0)
    | some k => match (zaM A b)[k]? with
      | none => (1, 0)
      | some g => if w = nI 0 then (0, g.1) else if w = nI 1 then (0, g.2.1) else if w = nI 2 then (0, g.2.2.length) else (1, 0)
/-- what keys ask of a view, from the lists -/
def zaFd (A : zAS) (s n : Nat) : Option zMg := match zaQ A s with
  | none => none
  | some (b, _) => match (zaV A s)[n - 1]? with
    | none => none
    | some v => zfind (zaM A b) v.1
def zaE (A : zAS) (s : Nat) (c : Nat → Nat) : zEnv := ((zaV A s).length, (if (zaV A s).length = 0 then 0 else ((zaV A s)[(zaV A s).length - 1]?.getD (0, 0)).1), (fun n => ((zaV A s)[n - 1]?.getD (0, 0)).1), (fun n => match zaFd A s n with
  | none => 0
  | some g => g.2.1), fun n ta tl => match zaFd A s n with
  | none => false
  | some g => zw2 (fun q => g.2.2[q]?.getD 0) c ta tl (g.2.2.length + 1 - tl) 0)
def zacl (A : zAS) (s : Nat) : Nat → Nat := fun p => (zaL A s)[p]?.getD 0
def zfin (A : zAS) (s : Nat) (T : List Nat) : zAS := zsS A s (zaC A s, zaQ A s, zaV A s, T, [])
def zEd (A : zAS) (s : Nat) (c : Nat → Nat) : Option zCmd → Nat × Nat × zAS
  | none => (3, 0, zfin A s (zaT A s))
  | some (k, u, t, a) => if zrf A s k a then (0, 1, zfin A s ((List.range t).map c ++ zokt false)) else (0, 0, zfin (zPtell (zPf (zaVT A s (zaV A s) []) s c k u a) s k u) s (zaT (zPtell (zPf (zaVT A s (zaV A s) []) s c k u a) s k u) s ++ ((List.range t).map c ++ zokt true)))
def zcE (A : zAS) (p : Int32) : Nat × Nat × zAS := match zsn p with
  | none => (1, 0, A)
  | some s => if zaC A s = false then (2, 0, A) else zEd A s (zacl A s) (zread (zacl A s) (zaE A s (zacl A s)) (zaL A s).length)
/-! ===== only the places of the view count ===== -/
def zOe (n : Nat) : Option (Nat × Bool × zHd) → Option (Nat × Bool × zHd) → Prop
  | none, none => True
  | some x, some y => x.1 = y.1 ∧ x.2.1 = y.2.1 ∧ ∀ q, 1 ≤ q → q ≤ n → x.2.2 q = y.2.2 q
  | _, _ => False
theorem zOe_rf (n : Nat) (x : Option (Nat × Bool × zHd)) : zOe n x x := by
  cases x with
  | none => trivial
  | some x => exact ⟨rfl, rfl, fun _ _ _ => rfl⟩
/-- two environments that answer alike of places 1 to n -/
def zEe (n : Nat) (E E' : zEnv) : Prop := E.1 = E'.1 ∧ E.2.1 = E'.2.1 ∧ ∀ q, 1 ≤ q → q ≤ n → E.2.2.1 q = E'.2.2.1 q ∧ E.2.2.2.1 q = E'.2.2.2.1 q ∧ ∀ ta tl, 1 ≤ tl → E.2.2.2.2 q ta tl = E'.2.2.2.2 q ta tl
theorem zleaf_cg {c : Nat → Nat} {E E' : zEnv} {n : Nat} (h : zEe n E E') (p : Nat) : zOe n (zleaf c E p) (zleaf c E' p) := by
  obtain ⟨h1, h2, h3⟩ := h
  unfold zleaf
  by_cases c1 : zlrg (c p) = false
  · rw [if_pos c1, if_pos c1, h1]
    exact zOe_rf _ _
  rw [if_neg c1, if_neg c1]
  by_cases c2 : zwn c p = 1488977920
  · rw [if_pos c2, if_pos c2]
    exact zOe_rf _ _
  rw [if_neg c2, if_neg c2]
  by_cases c3 : zwn c p = 8643411968
  · rw [if_pos c3, if_pos c3]
    split
    · exact ⟨rfl, rfl, fun q a b => by dsimp only; rw [(h3 q a b).2.1]⟩
    · trivial
  rw [if_neg c3, if_neg c3]
  by_cases c4 : zwn c p = 21668429824
  · rw [if_pos c4, if_pos c4]
    split
    · rename_i q
      exact ⟨rfl, rfl, fun n a b => (h3 n a b).2.2 _ _ q.2.1⟩
    · trivial
  rw [if_neg c4, if_neg c4]
  by_cases c5 : zwn c p = 22854762496
  · rw [if_pos c5, if_pos c5]
    split
    · cases zset c 64 (zre zlrg c p + 1) with
      | none => trivial
      | some x => exact ⟨rfl, rfl, fun q a b => by dsimp only; rw [h2, (h3 q a b).1]⟩
    · trivial
  rw [if_neg c5, if_neg c5]
  trivial
theorem zks_cg {c : Nat → Nat} {E E' : zEnv} {n : Nat} (h : zEe n E E') : ∀ (f : Nat) (b : Bool) (d p : Nat), zOe n (zks c E f b d p) (zks c E' f b d p) := by
  intro f
  induction f with
  | zero => intro b d p; trivial
  | succ f ih =>
    have one : ∀ (x y : Option (Nat × Bool × zHd)), zOe n x y → (x = none ∧ y = none) ∨ ∃ e w k k', x = some (e, w, k) ∧ y = some (e, w, k') ∧ ∀ q, 1 ≤ q → q ≤ n → k q = k' q := by
      intro x y hxy
      cases x with
      | none => cases y with
        | none => exact Or.inl ⟨rfl, rfl⟩
        | some y => exact hxy.elim
      | some x => cases y with
        | none => exact hxy.elim
        | some y =>
          obtain ⟨e, w, k⟩ := x
          obtain ⟨e', w', k'⟩ := y
          obtain ⟨q1, q2, q3⟩ := hxy
          have q1 : e = e' := q1
          have q2 : w = w' := q2
          rw [← q1, ← q2]
          exact Or.inr ⟨e, w, k, k', rfl, rfl, q3⟩
    intro b d p
    cases b with
    | true =>
      unfold zks
      rcases one _ _ (ih false d p) with ⟨e1, e2⟩ | ⟨e, w, k, k', e1, e2, e3⟩
      · rw [e1, e2]; trivial
      · rw [e1, e2]
        dsimp only
        by_cases q : c e = 32
        · rw [if_pos q, if_pos q]
          rcases one _ _ (ih true d (e + 1)) with ⟨g1, g2⟩ | ⟨e', w', k2, k2', g1, g2, g3⟩
          · rw [g1, g2]; trivial
          · rw [g1, g2]
            exact ⟨rfl, rfl, fun n a b => by dsimp only; rw [e3 n a b, g3 n a b]⟩
        · rw [if_neg q, if_neg q]
          exact ⟨rfl, rfl, e3⟩
    | false =>
      unfold zks
      by_cases q1 : 8 < d
      · rw [if_pos q1, if_pos q1]; trivial
      rw [if_neg q1, if_neg q1]
      by_cases q2 : c p = 40
      · rw [if_pos q2, if_pos q2]
        rcases one _ _ (ih true (d + 1) (p + 1)) with ⟨e1, e2⟩ | ⟨e, w, k, k', e1, e2, e3⟩
        · rw [e1, e2]; trivial
        · rw [e1, e2]
          dsimp only
          by_cases q : c e = 41
          · rw [if_pos q, if_pos q]
            exact ⟨rfl, rfl, e3⟩
          · rw [if_neg q, if_neg q]
            trivial
      rw [if_neg q2, if_neg q2]
      by_cases q3 : zwn c p = 15556673536
      · rw [if_pos q3, if_pos q3]
        by_cases q : c (zre zlrg c p) = 32
        · rw [if_pos q, if_pos q]
          rcases one _ _ (ih false (d + 1) (zre zlrg c p + 1)) with ⟨e1, e2⟩ | ⟨e, w, k, k', e1, e2, e3⟩
          · rw [e1, e2]; trivial
          · rw [e1, e2]
            exact ⟨rfl, rfl, fun n a b => by dsimp only; rw [e3 n a b]⟩
        · rw [if_neg q, if_neg q]
          trivial
      rw [if_neg q3, if_neg q3]
      by_cases q4 : zwn c p = 16710107136
      · rw [if_pos q4, if_pos q4]
        by_cases q : c (zre zlrg c p) = 32
        · rw [if_pos q, if_pos q]
          rcases one _ _ (ih false (d + 1) (zre zlrg c p + 1)) with ⟨e1, e2⟩ | ⟨e, w, k, k', e1, e2, e3⟩
          · rw [e1, e2]; trivial
          · rw [e1, e2]
            dsimp only
            by_cases r : c e = 32
            · rw [if_pos r, if_pos r]
              rcases one _ _ (ih false (d + 1) (e + 1)) with ⟨g1, g2⟩ | ⟨e', w', k2, k2', g1, g2, g3⟩
              · rw [g1, g2]; trivial
              · rw [g1, g2]
                exact ⟨rfl, rfl, fun n a b => by dsimp only; rw [e3 n a b, g3 n a b]⟩
            · rw [if_neg r, if_neg r]
              trivial
        · rw [if_neg q, if_neg q]
          trivial
      rw [if_neg q4, if_neg q4]
      exact zleaf_cg h p
def zAe (np : Nat) (a a' : zArg) : Prop := a.1 = a'.1 ∧ a.2.1 = a'.2.1 ∧ a.2.2.1 = a'.2.2.1 ∧ a.2.2.2.1 = a'.2.2.2.1 ∧ a.2.2.2.2.1 = a'.2.2.2.2.1 ∧ a.2.2.2.2.2.1 = a'.2.2.2.2.2.1 ∧ a.2.2.2.2.2.2.1 = a'.2.2.2.2.2.2.1 ∧ ∀ n, 1 ≤ n → n ≤ np → a.2.2.2.2.2.2.2 n = a'.2.2.2.2.2.2.2 n
theorem zAe_rf (np : Nat) (a : zArg) : zAe np a a := ⟨rfl, rfl, rfl, rfl, rfl, rfl, rfl, fun _ _ _ => rfl⟩
def zRe (np : Nat) : Option (Nat × zArg) → Option (Nat × zArg) → Prop
  | none, none => True
  | some x, some y => x.1 = y.1 ∧ zAe np x.2 y.2
  | _, _ => False
theorem zRe_rf (np : Nat) (x : Option (Nat × zArg)) : zRe np x x := by
  cases x with
  | none => trivial
  | some x => exact ⟨rfl, zAe_rf _ _⟩
theorem zrest2_cg {c : Nat → Nat} {E E' : zEnv} {np : Nat} (h : zEe np E E') (u : Bool) (k p : Nat) : zRe np (zrest2 c E u k p) (zrest2 c E' u k p) := by
  have hS := zks_cg (c := c) h 130 true 0 p
  obtain ⟨h1, h2, h3⟩ := h
  have hP : ∀ (l : List zRg) n, 1 ≤ n → n ≤ np → zrsin l (if u then E.2.2.1 n else n) (if u then E.2.1 else E.1) = zrsin l (if u then E'.2.2.1 n else n) (if u then E'.2.1 else E'.1) := fun l n a b => by rw [h1, h2, (h3 n a b).1]
  unfold zrest2
  by_cases k13 : k = 13
  · rw [if_pos k13, if_pos k13]
    cases hx : zks c E 130 true 0 p with
    | none =>
      rw [hx] at hS
      cases hy : zks c E' 130 true 0 p with
      | none => trivial
      | some y => rw [hy] at hS; exact hS.elim
    | some x =>
      rw [hx] at hS
      cases hy : zks c E' 130 true 0 p with
      | none => rw [hy] at hS; exact hS.elim
      | some y =>
        rw [hy] at hS
        obtain ⟨e, w, P⟩ := x
        obtain ⟨e', w', P'⟩ := y
        exact ⟨hS.1, rfl, rfl, rfl, rfl, rfl, rfl, hS.2.1, hS.2.2⟩
  · rw [if_neg k13, if_neg k13]
    cases zset c 64 p with
    | none => trivial
    | some x =>
      obtain ⟨l, e⟩ := x
      dsimp only
      by_cases q : c e = 32
      · rw [if_pos q, if_pos q]
        by_cases k10 : k = 10
        · rw [if_pos k10, if_pos k10]
          cases zfls c (if zsgn (c (e + 1)) = 0 then e + 1 else e + 2) with
          | none => trivial
          | some y => exact ⟨rfl, rfl, rfl, rfl, rfl, rfl, rfl, by dsimp only; rw [h1], hP l⟩
        · rw [if_neg k10, if_neg k10]
          by_cases k11 : k = 11
          · rw [if_pos k11, if_pos k11]
            cases zitem (zwn c (e + 1)) with
            | none => trivial
            | some y => exact ⟨rfl, rfl, rfl, rfl, rfl, rfl, rfl, by dsimp only; rw [h1], hP l⟩
          · rw [if_neg k11, if_neg k11]
            by_cases r : 97 ≤ c (e + 1) ∧ c (e + 1) ≤ 100
            · rw [if_pos r, if_pos r]
              exact ⟨rfl, rfl, rfl, rfl, rfl, rfl, rfl, by dsimp only; rw [h1], hP l⟩
            · rw [if_neg r, if_neg r]
              trivial
      · rw [if_neg q, if_neg q]
        trivial
theorem zrest_cg {c : Nat → Nat} {E E' : zEnv} {np : Nat} (h : zEe np E E') (u : Bool) (k p : Nat) : zRe np (zrest c E u k p) (zrest c E' u k p) := by
  unfold zrest
  by_cases q1 : k ≤ 4
  · rw [if_pos q1, if_pos q1]; exact zRe_rf _ _
  rw [if_neg q1, if_neg q1]
  by_cases q2 : c p = 32
  · rw [if_pos q2, if_pos q2]
    by_cases q3 : k ≤ 9
    · rw [if_pos q3, if_pos q3]; exact zRe_rf _ _
    · rw [if_neg q3, if_neg q3]; exact zrest2_cg h u k (p + 1)
  · rw [if_neg q2, if_neg q2]; trivial
theorem zread_cg {c : Nat → Nat} {E E' : zEnv} {np : Nat} (h : zEe np E E') (ll : Nat) : (zread c E ll = none ∧ zread c E' ll = none) ∨ ∃ k u t a a', zread c E ll = some (k, u, t, a) ∧ zread c E' ll = some (k, u, t, a') ∧ zAe np a a' := by
  unfold zread
  cases zhead c with
  | none => exact Or.inl ⟨rfl, rfl⟩
  | some x =>
    obtain ⟨u, x, p⟩ := x
    dsimp only
    by_cases q : zcmd x = 0 ∨ u = true ∧ zcmd x < 10
    · rw [if_pos q, if_pos q]
      exact Or.inl ⟨rfl, rfl⟩
    rw [if_neg q, if_neg q]
    have hR := zrest_cg (c := c) h u (zcmd x) p
    cases hx : zrest c E u (zcmd x) p with
    | none =>
      rw [hx] at hR
      cases hy : zrest c E' u (zcmd x) p with
      | none => exact Or.inl ⟨rfl, rfl⟩
      | some y => rw [hy] at hR; exact hR.elim
    | some r =>
      rw [hx] at hR
      cases hy : zrest c E' u (zcmd x) p with
      | none => rw [hy] at hR; exact hR.elim
      | some y =>
        rw [hy] at hR
        obtain ⟨e, a⟩ := r
        obtain ⟨e', a'⟩ := y
        obtain ⟨g1, g2⟩ := hR
        have g1 : e = e' := g1
        rw [← g1]
        dsimp only
        by_cases z : e = ll
        · rw [if_pos z, if_pos z]
          exact Or.inr ⟨_, _, _, _, _, rfl, rfl, g2⟩
        · rw [if_neg z, if_neg z]
          exact Or.inl ⟨rfl, rfl⟩
/-! performing and refusing ask P only of places of the view -/
theorem zov_cg {α : Type} {P P' : zHd} {step : Nat → α → α} : ∀ (f n : Nat) (σ : α), (∀ q, n ≤ q → q < n + f → P q = P' q) → zov P step f n σ = zov P' step f n σ
  | 0, _, _, _ => rfl
  | f + 1, n, σ, h => by
    unfold zov
    rw [h n (Nat.le_refl _) (by omega)]
    exact zov_cg f (n + 1) _ fun q a b => h q (by omega) (by omega)
theorem zcn_cg {M : List zMg} {V : List (Nat × Nat)} {P P' : zHd} : ∀ (f n : Nat), (∀ q, n ≤ q → q < n + f → P q = P' q) → zcn M V P f n = zcn M V P' f n
  | 0, _, _ => rfl
  | f + 1, n, h => by
    unfold zcn zcn1
    rw [h n (Nat.le_refl _) (by omega), zcn_cg f (n + 1) fun q a b => h q (by omega) (by omega)]
theorem zrf_cg {A : zAS} {s k : Nat} {a a' : zArg} (h : zAe (zaV A s).length a a') : zrf A s k a = zrf A s k a' := by
  obtain ⟨h1, -, -, -, -, -, h7, h8⟩ := h
  have e : zaN A s a.2.2.2.2.2.2.2 = zaN A s a'.2.2.2.2.2.2.2 := by
    unfold zaN
    cases zaQ A s with
    | none => rfl
    | some q => exact zcn_cg _ _ fun q x y => h8 q x (by omega)
  unfold zrf
  rw [h1, h7, e]
theorem zPf_cg {A : zAS} {s k : Nat} {c : Nat → Nat} {u : Bool} {a a' : zArg} (h : zAe (zaV A s).length a a') : zPf A s c k u a = zPf A s c k u a' := by
  obtain ⟨h1, h2, h3, h4, h5, h6, h7, h8⟩ := h
  unfold zPf
  rw [h1, h2, h3, h4, h5, h6]
  cases zaQ A s with
  | none => rfl
  | some q =>
    obtain ⟨b, w⟩ := q
    dsimp only
    rw [zov_cg (P := a.2.2.2.2.2.2.2) (P' := a'.2.2.2.2.2.2.2) (zaV A s).length 1 [42, 32, 83, 69, 65, 82, 67, 72] fun q x y => h8 q x (by omega)]
    rw [zov_cg (P := a.2.2.2.2.2.2.2) (P' := a'.2.2.2.2.2.2.2) (zaV A s).length 1 ((A.1 a'.1).2.2.1, zaM A a'.1) fun q x y => h8 q x (by omega)]
    rw [zov_cg (P := a.2.2.2.2.2.2.2) (P' := a'.2.2.2.2.2.2.2) (zaV A s).length 1 (zaM A b, zaV A s, zaT A s) fun q x y => h8 q x (by omega)]
