/-! ===== only the places for which a property holds count (as in part 66) ===== -/
def zOg (n : Nat → Prop) : Option (Nat × Bool × zHd) → Option (Nat × Bool × zHd) → Prop
  | none, none => True
  | some x, some y => x.1 = y.1 ∧ x.2.1 = y.2.1 ∧ ∀ q, 1 ≤ q → n q → x.2.2 q = y.2.2 q
  | _, _ => False
theorem zOg_rf (n : Nat → Prop) (x : Option (Nat × Bool × zHd)) : zOg n x x := by
  cases x with
  | none => trivial
  | some x => exact ⟨rfl, rfl, fun _ _ _ => rfl⟩
/-- two environments that answer alike of places 1 to n -/
def zEg (n : Nat → Prop) (E E' : zEnv) : Prop := E.1 = E'.1 ∧ E.2.1 = E'.2.1 ∧ ∀ q, 1 ≤ q → n q → E.2.2.1 q = E'.2.2.1 q ∧ E.2.2.2.1 q = E'.2.2.2.1 q ∧ ∀ ta tl, 1 ≤ tl → E.2.2.2.2 q ta tl = E'.2.2.2.2 q ta tl
theorem zleaf_cgg {c : Nat → Nat} {E E' : zEnv} {n : Nat → Prop} (h : zEg n E E') (p : Nat) : zOg n (zleaf c E p) (zleaf c E' p) := by
  obtain ⟨h1, h2, h3⟩ := h
  unfold zleaf
  by_cases c1 : zlrg (c p) = false
  · rw [if_pos c1, if_pos c1, h1]
    exact zOg_rf _ _
  rw [if_neg c1, if_neg c1]
  by_cases c2 : zwn c p = 1488977920
  · rw [if_pos c2, if_pos c2]
    exact zOg_rf _ _
  rw [if_neg c2, if_neg c2]
  by_cases c3 : zwn c p = 8643411968
  · rw [if_pos c3, if_pos c3]
    split
    · exact ⟨rfl, rfl, fun q a b => by dsimp only; rw [(h3 q a b).2.1]⟩
    · trivial
  rw [if_neg c3, if_neg c3]
  by_cases c4 : zwn c p = 21668429824
  · rw [if_pos c4, if_pos c4]
    split
    · rename_i q
      exact ⟨rfl, rfl, fun n a b => (h3 n a b).2.2 _ _ q.2.1⟩
    · trivial
  rw [if_neg c4, if_neg c4]
  by_cases c5 : zwn c p = 22854762496
  · rw [if_pos c5, if_pos c5]
    split
    · cases zset c 64 (zre zlrg c p + 1) with
      | none => trivial
      | some x => exact ⟨rfl, rfl, fun q a b => by dsimp only; rw [h2, (h3 q a b).1]⟩
    · trivial
  rw [if_neg c5, if_neg c5]
  trivial
theorem zks_cgg {c : Nat → Nat} {E E' : zEnv} {n : Nat → Prop} (h : zEg n E E') : ∀ (f : Nat) (b : Bool) (d p : Nat), zOg n (zks c E f b d p) (zks c E' f b d p) := by
  intro f
  induction f with
  | zero => intro b d p; trivial
  | succ f ih =>
    have one : ∀ (x y : Option (Nat × Bool × zHd)), zOg n x y → (x = none ∧ y = none) ∨ ∃ e w k k', x = some (e, w, k) ∧ y = some (e, w, k') ∧ ∀ q, 1 ≤ q → n q → k q = k' q := by
      intro x y hxy
      cases x with
      | none => cases y with
        | none => exact Or.inl ⟨rfl, rfl⟩
        | some y => exact hxy.elim
      | some x => cases y with
        | none => exact hxy.elim
        | some y =>
          obtain ⟨e, w, k⟩ := x
          obtain ⟨e', w', k'⟩ := y
          obtain ⟨q1, q2, q3⟩ := hxy
          have q1 : e = e' := q1
          have q2 : w = w' := q2
          rw [← q1, ← q2]
          exact Or.inr ⟨e, w, k, k', rfl, rfl, q3⟩
    intro b d p
    cases b with
    | true =>
      unfold zks
      rcases one _ _ (ih false d p) with ⟨e1, e2⟩ | ⟨e, w, k, k', e1, e2, e3⟩
      · rw [e1, e2]; trivial
      · rw [e1, e2]
        dsimp only
        by_cases q : c e = 32
        · rw [if_pos q, if_pos q]
          rcases one _ _ (ih true d (e + 1)) with ⟨g1, g2⟩ | ⟨e', w', k2, k2', g1, g2, g3⟩
          · rw [g1, g2]; trivial
          · rw [g1, g2]
            exact ⟨rfl, rfl, fun n a b => by dsimp only; rw [e3 n a b, g3 n a b]⟩
        · rw [if_neg q, if_neg q]
          exact ⟨rfl, rfl, e3⟩
    | false =>
      unfold zks
      by_cases q1 : 8 < d
      · rw [if_pos q1, if_pos q1]; trivial
      rw [if_neg q1, if_neg q1]
      by_cases q2 : c p = 40
      · rw [if_pos q2, if_pos q2]
        rcases one _ _ (ih true (d + 1) (p + 1)) with ⟨e1, e2⟩ | ⟨e, w, k, k', e1, e2, e3⟩
        · rw [e1, e2]; trivial
        · rw [e1, e2]
          dsimp only
          by_cases q : c e = 41
          · rw [if_pos q, if_pos q]
            exact ⟨rfl, rfl, e3⟩
          · rw [if_neg q, if_neg q]
            trivial
      rw [if_neg q2, if_neg q2]
      by_cases q3 : zwn c p = 15556673536
      · rw [if_pos q3, if_pos q3]
        by_cases q : c (zre zlrg c p) = 32
        · rw [if_pos q, if_pos q]
          rcases one _ _ (ih false (d + 1) (zre zlrg c p + 1)) with ⟨e1, e2⟩ | ⟨e, w, k, k', e1, e2, e3⟩
          · rw [e1, e2]; trivial
          · rw [e1, e2]
            exact ⟨rfl, rfl, fun n a b => by dsimp only; rw [e3 n a b]⟩
        · rw [if_neg q, if_neg q]
          trivial
      rw [if_neg q3, if_neg q3]
      by_cases q4 : zwn c p = 16710107136
      · rw [if_pos q4, if_pos q4]
        by_cases q : c (zre zlrg c p) = 32
        · rw [if_pos q, if_pos q]
          rcases one _ _ (ih false (d + 1) (zre zlrg c p + 1)) with ⟨e1, e2⟩ | ⟨e, w, k, k', e1, e2, e3⟩
          · rw [e1, e2]; trivial
          · rw [e1, e2]
            dsimp only
            by_cases r : c e = 32
            · rw [if_pos r, if_pos r]
              rcases one _ _ (ih false (d + 1) (e + 1)) with ⟨g1, g2⟩ | ⟨e', w', k2, k2', g1, g2, g3⟩
              · rw [g1, g2]; trivial
              · rw [g1, g2]
                exact ⟨rfl, rfl, fun n a b => by dsimp only; rw [e3 n a b, g3 n a b]⟩
            · rw [if_neg r, if_neg r]
              trivial
        · rw [if_neg q, if_neg q]
          trivial
      rw [if_neg q4, if_neg q4]
      exact zleaf_cgg h p
def zAg (np : Nat → Prop) (a a' : zArg) : Prop := a.1 = a'.1 ∧ a.2.1 = a'.2.1 ∧ a.2.2.1 = a'.2.2.1 ∧ a.2.2.2.1 = a'.2.2.2.1 ∧ a.2.2.2.2.1 = a'.2.2.2.2.1 ∧ a.2.2.2.2.2.1 = a'.2.2.2.2.2.1 ∧ a.2.2.2.2.2.2.1 = a'.2.2.2.2.2.2.1 ∧ ∀ n, 1 ≤ n → np n → a.2.2.2.2.2.2.2 n = a'.2.2.2.2.2.2.2 n
theorem zAg_rf (np : Nat → Prop) (a : zArg) : zAg np a a := ⟨rfl, rfl, rfl, rfl, rfl, rfl, rfl, fun _ _ _ => rfl⟩
def zRg1 (np : Nat → Prop) : Option (Nat × zArg) → Option (Nat × zArg) → Prop
  | none, none => True
  | some x, some y => x.1 = y.1 ∧ zAg np x.2 y.2
  | _, _ => False
theorem zRr_rf (np : Nat → Prop) (x : Option (Nat × zArg)) : zRg1 np x x := by
  cases x with
  | none => trivial
  | some x => exact ⟨rfl, zAg_rf _ _⟩
theorem zrest2_cgg {c : Nat → Nat} {E E' : zEnv} {np : Nat → Prop} (h : zEg np E E') (u : Bool) (k p : Nat) : zRg1 np (zrest2 c E u k p) (zrest2 c E' u k p) := by
  have hS := zks_cgg (c := c) h 130 true 0 p
  obtain ⟨h1, h2, h3⟩ := h
  have hP : ∀ (l : List zRg) n, 1 ≤ n → np n → zrsin l (if u then E.2.2.1 n else n) (if u then E.2.1 else E.1) = zrsin l (if u then E'.2.2.1 n else n) (if u then E'.2.1 else E'.1) := fun l n a b => by rw [h1, h2, (h3 n a b).1]
  unfold zrest2
  by_cases k13 : k = 13
  · rw [if_pos k13, if_pos k13]
    cases hx : zks c E 130 true 0 p with
    | none =>
      rw [hx] at hS
      cases hy : zks c E' 130 true 0 p with
      | none => trivial
      | some y => rw [hy] at hS; exact hS.elim
    | some x =>
      rw [hx] at hS
      cases hy : zks c E' 130 true 0 p with
      | none => rw [hy] at hS; exact hS.elim
      | some y =>
        rw [hy] at hS
        obtain ⟨e, w, P⟩ := x
        obtain ⟨e', w', P'⟩ := y
        exact ⟨hS.1, rfl, rfl, rfl, rfl, rfl, rfl, hS.2.1, hS.2.2⟩
  · rw [if_neg k13, if_neg k13]
    cases zset c 64 p with
    | none => trivial
    | some x =>
      obtain ⟨l, e⟩ := x
      dsimp only
      by_cases q : c e = 32
      · rw [if_pos q, if_pos q]
        by_cases k10 : k = 10
        · rw [if_pos k10, if_pos k10]
          cases zfls c (if zsgn (c (e + 1)) = 0 then e + 1 else e + 2) with
          | none => trivial
          | some y => exact ⟨rfl, rfl, rfl, rfl, rfl, rfl, rfl, by dsimp only; rw [h1], hP l⟩
        · rw [if_neg k10, if_neg k10]
          by_cases k11 : k = 11
          · rw [if_pos k11, if_pos k11]
            cases zitem (zwn c (e + 1)) with
            | none => trivial
            | some y => exact ⟨rfl, rfl, rfl, rfl, rfl, rfl, rfl, by dsimp only; rw [h1], hP l⟩
          · rw [if_neg k11, if_neg k11]
            by_cases r : 97 ≤ c (e + 1) ∧ c (e + 1) ≤ 100
            · rw [if_pos r, if_pos r]
              exact ⟨rfl, rfl, rfl, rfl, rfl, rfl, rfl, by dsimp only; rw [h1], hP l⟩
            · rw [if_neg r, if_neg r]
              trivial
      · rw [if_neg q, if_neg q]
        trivial
theorem zrest_cgg {c : Nat → Nat} {E E' : zEnv} {np : Nat → Prop} (h : zEg np E E') (u : Bool) (k p : Nat) : zRg1 np (zrest c E u k p) (zrest c E' u k p) := by
  unfold zrest
  by_cases q1 : k ≤ 4
  · rw [if_pos q1, if_pos q1]; exact zRr_rf _ _
  rw [if_neg q1, if_neg q1]
  by_cases q2 : c p = 32
  · rw [if_pos q2, if_pos q2]
    by_cases q3 : k ≤ 9
    · rw [if_pos q3, if_pos q3]; exact zRr_rf _ _
    · rw [if_neg q3, if_neg q3]; exact zrest2_cgg h u k (p + 1)
  · rw [if_neg q2, if_neg q2]; trivial
theorem zread_cgg {c : Nat → Nat} {E E' : zEnv} {np : Nat → Prop} (h : zEg np E E') (ll : Nat) : (zread c E ll = none ∧ zread c E' ll = none) ∨ ∃ k u t a a', zread c E ll = some (k, u, t, a) ∧ zread c E' ll = some (k, u, t, a') ∧ zAg np a a' := by
  unfold zread
  cases zhead c with
  | none => exact Or.inl ⟨rfl, rfl⟩
  | some x =>
    obtain ⟨u, x, p⟩ := x
    dsimp only
    by_cases q : zcmd x = 0 ∨ u = true ∧ zcmd x < 10
    · rw [if_pos q, if_pos q]
      exact Or.inl ⟨rfl, rfl⟩
    rw [if_neg q, if_neg q]
    have hR := zrest_cgg (c := c) h u (zcmd x) p
    cases hx : zrest c E u (zcmd x) p with
    | none =>
      rw [hx] at hR
      cases hy : zrest c E' u (zcmd x) p with
      | none => exact Or.inl ⟨rfl, rfl⟩
      | some y => rw [hy] at hR; exact hR.elim
    | some r =>
      rw [hx] at hR
      cases hy : zrest c E' u (zcmd x) p with
      | none => rw [hy] at hR; exact hR.elim
      | some y =>
        rw [hy] at hR
        obtain ⟨e, a⟩ := r
        obtain ⟨e', a'⟩ := y
        obtain ⟨g1, g2⟩ := hR
        have g1 : e = e' := g1
        rw [← g1]
        dsimp only
        by_cases z : e = ll
        · rw [if_pos z, if_pos z]
          exact Or.inr ⟨_, _, _, _, _, rfl, rfl, g2⟩
        · rw [if_neg z, if_neg z]
          exact Or.inl ⟨rfl, rfl⟩
/-! ===== the class's environment and the lists' ===== -/
theorem zw1_at {t c S : Nat → Nat} {f ta tl : Nat} (h : ∀ j, j < tl → S j = c (ta + j)) : ∀ k j, j + k ≤ tl → zw1 t S f 0 k j = zw1 t c f ta k j
  | 0, _, _ => rfl
  | k + 1, j, hk => by
    unfold zw1
    rw [Nat.zero_add, h j (by omega), zw1_at h k (j + 1) (by omega)]
theorem zw2_at {t c S : Nat → Nat} {ta tl : Nat} (h : ∀ j, j < tl → S j = c (ta + j)) : ∀ k f, zw2 t S 0 tl k f = zw2 t c ta tl k f
  | 0, _ => rfl
  | k + 1, f => by
    unfold zw2
    rw [zw1_at h tl 0 (by omega), zw2_at h k (f + 1)]
theorem zct_at (T : List Nat) (c : Nat → Nat) (ta tl : Nat) : zct T ((List.range tl).map fun i => c (ta + i)) = zw2 (fun q => T[q]?.getD 0) c ta tl (T.length + 1 - tl) 0 := by
  unfold zct
  rw [List.length_map, List.length_range]
  have e : (fun q => T.getD q 0) = fun q => T[q]?.getD 0 := by funext q; exact List.getD_eq_getElem?_getD
  rw [e]
  refine zw2_at (fun j hj => ?_) _ _
  rw [List.getD_eq_getElem?_getD, List.getElem?_map, List.getElem?_range hj]
  rfl
theorem zVs_g {O : zOt} {W : List (Nat × Nat)} {q : Nat} (hq : q < W.length) : (zVs O W)[q]? = some ((O (zWo W q)).1, zWt W q) := by
  unfold zVs zWo zWt
  rw [List.getElem?_map, List.getD_eq_getElem?_getD, List.getElem?_eq_getElem hq]
  rfl
theorem zWo_mem {W : List (Nat × Nat)} {q : Nat} (hq : q < W.length) : (zWo W q, zWt W q) ∈ W := by
  unfold zWo zWt
  rw [List.getD_eq_getElem?_getD, List.getElem?_eq_getElem hq]
  exact List.getElem_mem hq
/-- a place of the view that is not gone -/
def zGp (O : zOt) (W : List (Nat × Nat)) (q : Nat) : Prop := q ≤ W.length ∧ zPg O W q = true
theorem zEc_ok {A : zAS} {O : zOt} {W : List (Nat × Nat)} {s : Nat} {c : Nat → Nat} (hV : zaV A s = zVs O W) (hQ : W = [] ∨ ∃ b w R, zaQ A s = some (b, w) ∧ zaM A b = zMs O R ∧ zLk O R W) : zEg (zGp O W) (zEc O W c) (zaE A s c) := by
  refine ⟨?_, ?_, fun q q1 ⟨q2, q3⟩ => ?_⟩
  · show W.length = (zaV A s).length
    rw [hV, zVs_len]
  · show zlst O W true = (if (zaV A s).length = 0 then 0 else ((zaV A s)[(zaV A s).length - 1]?.getD (0, 0)).1)
    rw [hV, zVs_len]
    unfold zlst
    by_cases e : W.length = 0
    · rw [if_neg (fun z => z.2 e), if_pos e, e]
    · rw [if_pos ⟨rfl, e⟩, if_neg e, zVs_g (by omega)]
      rfl
  · have ql : q - 1 < W.length := by omega
    rcases hQ with rfl | ⟨b, w, R, e1, e2, e3⟩
    · exact absurd ql (Nat.not_lt_zero _)
    have ng : (O (zWo W (q - 1))).2.2.1 = false := by
      unfold zPg at q3
      cases z : (O (zWo W (q - 1))).2.2.1 with
      | false => rfl
      | true => rw [z] at q3; cases q3
    have fd : zaFd A s q = some (zmA O (zWo W (q - 1))) := by
      unfold zaFd
      rw [e1]
      dsimp only
      rw [hV, zVs_g ql]
      dsimp only
      have := zfd_lk e3 (zWo_mem ql)
      rw [if_neg (by rw [ng]; exact Bool.noConfusion)] at this
      rw [e2]
      exact this
    refine ⟨?_, ?_, fun ta tl _ => ?_⟩
    · show zPn O W q = ((zaV A s)[q - 1]?.getD (0, 0)).1
      rw [hV, zVs_g ql]
      rfl
    · show zPf' O W q = (match zaFd A s q with
        | none => 0
        | some g => g.2.1)
      rw [fd]
      rfl
    · show zct (zPt O W q) ((List.range tl).map fun i => c (ta + i)) = (match zaFd A s q with
        | none => false
        | some g => zw2 (fun q => g.2.2[q]?.getD 0) c ta tl (g.2.2.length + 1 - tl) 0)
      rw [fd]
      exact zct_at _ _ _ _
theorem zMk_gp {O : zOt} {W : List (Nat × Nat)} {P P' : zHd} (h : ∀ q, 1 ≤ q → zGp O W q → P q = P' q) : zMk (fun n => zPg O W n && P n) W.length = zMk (fun n => zPg O W n && P' n) W.length := by
  refine zMk_cg _ fun k h1 h2 => ?_
  cases e : zPg O W k with
  | false => rfl
  | true => rw [h k h1 ⟨h2, e⟩]
/-! ===== how many bits ===== -/
def zbc (M : Nat) : Nat → Nat
  | 0 => 0
  | n + 1 => zbc M n + (M.testBit n).toNat
theorem zcn_bc {M : Nat} {Ms : List zMg} {V : List (Nat × Nat)} {P : zHd} {n : Nat} (h : ∀ i, i < n → M.testBit i = zcn1 Ms V P (i + 1)) : ∀ f k, k + f ≤ n → zbc M (k + f) = zbc M k + zcn Ms V P f (k + 1)
  | 0, k, _ => rfl
  | f + 1, k, hk => by
    have := zcn_bc h f (k + 1) (by omega)
    unfold zcn
    rw [show k + (f + 1) = k + 1 + f from by omega, this]
    show zbc M k + (M.testBit k).toNat + _ = _
    rw [h k (by omega)]
    omega
theorem zbc_hi {M n : Nat} (h : ∀ i, n ≤ i → M.testBit i = false) : ∀ k, zbc M (n + k) = zbc M n
  | 0 => rfl
  | k + 1 => by
    show zbc M (n + k) + (M.testBit (n + k)).toNat = _
    rw [h (n + k) (by omega), zbc_hi h k]
    rfl
theorem ztQ_len {O : zOt} {M : Nat} : ∀ (V : List (Nat × Nat)) (n i : Nat), zbc M (i + V.length) = zbc M i + (ztQ O M n i V).length
  | [], _, _ => rfl
  | v :: V, n, i => by
    unfold ztQ
    have e : i + (v :: V).length = i + 1 + V.length := by rw [List.length_cons]; omega
    have d : zbc M (i + 1) = zbc M i + (M.testBit i).toNat := rfl
    rw [e]
    by_cases q : M.testBit i = true
    · rw [if_pos q, ztQ_len (O := O) V (n + 1) (i + 1), d, q, List.length_cons]
      simp only [Bool.toNat_true]
      omega
    · rw [if_neg q, ztQ_len (O := O) V n (i + 1), d, show M.testBit i = false from by cases z : M.testBit i with
        | false => rfl
        | true => exact absurd z q]
      rfl
/-- the places that P names, counted by the class and by the lists -/
theorem zbc_cn {A : zAS} {O : zOt} {R : List Nat} {W : List (Nat × Nat)} {s b : Nat} {w : Bool} {P : zHd} (hV : zaV A s = zVs O W) (hQ : zaQ A s = some (b, w)) (hM : zaM A b = zMs O R) (hL : zLk O R W) (h40 : W.length ≤ 40) : zbc (zMk (fun n => zPg O W n && P n) W.length) 64 = zaN A s P ∧ zbc (zMk (fun n => zPg O W n && P n) W.length) W.length = zaN A s P := by
  have hi : ∀ i, W.length ≤ i → (zMk (fun n => zPg O W n && P n) W.length).testBit i = false := fun i hi => by rw [zMk_tb, decide_eq_false (by omega), Bool.false_and]
  have e : zbc (zMk (fun n => zPg O W n && P n) W.length) W.length = zaN A s P := by
    unfold zaN
    rw [hQ]
    dsimp only
    rw [hV, zVs_len, hM]
    have := zcn_bc (M := zMk (fun n => zPg O W n && P n) W.length) (Ms := zMs O R) (V := zVs O W) (P := P) (n := W.length) (fun i hi => ?_) W.length 0 (by omega)
    · rw [Nat.zero_add] at this
      rw [this]
      exact Nat.zero_add _
    · rw [zMk_tb, decide_eq_true hi, Bool.true_and]
      unfold zcn1 zPg
      rw [show i + 1 - 1 = i from rfl, zVs_g hi]
      dsimp only
      rw [zfd_lk hL (zWo_mem hi)]
      cases (O (zWo W i)).2.2.1 <;> rfl
  refine ⟨?_, e⟩
  rw [show 64 = W.length + (64 - W.length) from by omega, zbc_hi hi]
  exact e
