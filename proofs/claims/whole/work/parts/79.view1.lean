/-! ===== the class's views: what is asked of them ===== -/
/-- the rows of places: bit i stands for place i + 1 -/
def zMk (P : Nat → Bool) : Nat → Nat
  | 0 => 0
  | n + 1 => zMk P n ||| (if P (n + 1) then 2 ^ n else 0)
theorem zMk_tb (P : Nat → Bool) : ∀ n i, (zMk P n).testBit i = (decide (i < n) && P (i + 1)) := by
  intro n
  induction n with
  | zero => intro i; rw [decide_eq_false (by omega), Bool.false_and]; exact Nat.zero_testBit i
  | succ n ih =>
    intro i
    unfold zMk
    rw [Nat.testBit_or, ih]
    by_cases q : P (n + 1) = true
    · rw [if_pos q, Nat.testBit_two_pow]
      by_cases e : n = i
      · rw [decide_eq_true e, decide_eq_true (show i < n + 1 by omega), ← e, q, Bool.or_true]; rfl
      · rw [decide_eq_false e, Bool.or_false]
        by_cases l : i < n
        · rw [decide_eq_true l, decide_eq_true (show i < n + 1 by omega)]
        · rw [decide_eq_false l, decide_eq_false (show ¬ i < n + 1 by omega)]
    · rw [if_neg q, Nat.zero_testBit, Bool.or_false]
      by_cases e : n = i
      · rw [← e, decide_eq_false (by omega), decide_eq_true (by omega)]
        cases z : P (n + 1) with
        | true => exact absurd z q
        | false => rfl
      · by_cases l : i < n
        · rw [decide_eq_true l, decide_eq_true (show i < n + 1 by omega)]
        · rw [decide_eq_false l, decide_eq_false (show ¬ i < n + 1 by omega)]
theorem zMk_lt (P : Nat → Bool) (n : Nat) : zMk P n < 2 ^ n := Nat.lt_pow_two_of_testBit _ fun i hi => by rw [zMk_tb, decide_eq_false (by omega), Bool.false_and]
theorem zMk_cg {P Q : Nat → Bool} : ∀ n, (∀ k, 1 ≤ k → k ≤ n → P k = Q k) → zMk P n = zMk Q n
  | 0, _ => rfl
  | n + 1, h => by
    unfold zMk
    rw [zMk_cg n (fun k h1 h2 => h k h1 (by omega)), h (n + 1) (by omega) (Nat.le_refl _)]
theorem zl_or' (x y : Nat) : nL x ||| nL y = nL (x ||| y) := by
  apply Int64.toBitVec_inj.mp
  show BitVec.ofNat 64 x ||| BitVec.ofNat 64 y = BitVec.ofNat 64 (x ||| y)
  rw [BitVec.ofNat_or]
theorem zl_shl : ∀ i, i < 64 → (nL 1) <<< ((nI i).toInt64 &&& 63) = nL (2 ^ i) := by decide
theorem zl_set {x i : Nat} (hi : i < 64) : (nL x) ||| ((nL 1) <<< ((nI i).toInt64 &&& 63)) = nL (x ||| 2 ^ i) := by rw [zl_shl i hi, zl_or']
/-- an object's number, flags, whether it is gone, its text -/
abbrev zOt : Type := Nat → Nat × Nat × Bool × List Nat
def zOb (h : zH) (O : zOt) (p : Nat) : Prop := (155 ≤ p ∧ p < zN h ∧ zT h p = 4) ∧ zI h 200 p 0 = nI (O p).1 ∧ zI h 202 p 0 = nI (O p).2.1 ∧ zI h 203 p 0 = nI (O p).2.2.1.toNat ∧ ((O p).1 < 10000 ∧ (O p).2.1 < 16) ∧ ∃ q, zR h 201 p 0 = some q ∧ zSt h q (O p).2.2.2
/-- a view's row: objects, and flags that were told -/
def zWo (W : List (Nat × Nat)) (i : Nat) : Nat := (W.getD i (0, 0)).1
def zWt (W : List (Nat × Nat)) (i : Nat) : Nat := (W.getD i (0, 0)).2
def zWv (h : zH) (m : zMm) (O : zOt) (s : Nat) (W : List (Nat × Nat)) : Prop := m 402 (115 + 7 * s) 0 = W.length ∧ W.length ≤ 40 ∧ ∀ i, i < W.length → zR h 0 (116 + 7 * s) i = some (zWo W i) ∧ m 0 (117 + 7 * s) i = zWt W i ∧ zWt W i < 16 ∧ zOb h O (zWo W i)
/-- place n's object is not gone; its number, flags, text -/
def zPg (O : zOt) (W : List (Nat × Nat)) (n : Nat) : Bool := !(O (zWo W (n - 1))).2.2.1
def zPn (O : zOt) (W : List (Nat × Nat)) (n : Nat) : Nat := (O (zWo W (n - 1))).1
def zPf' (O : zOt) (W : List (Nat × Nat)) (n : Nat) : Nat := (O (zWo W (n - 1))).2.1
def zPt (O : zOt) (W : List (Nat × Nat)) (n : Nat) : List Nat := (O (zWo W (n - 1))).2.2.2
/-- whether S is a part of T -/
def zct (T S : List Nat) : Bool := zw2 (fun q => T.getD q 0) (fun q => S.getD q 0) 0 S.length (T.length + 1 - S.length) 0
section
variable {L : Nat} {xs : Nat → Int32} {h : zH} {m : zMm} {O : zOt} {s : Nat} {W : List (Nat × Nat)}
theorem s64 (hx : zFx h) (hs : s < 3) (hW : zWv h m O s W) {b : Bool} : zCl (zPr L xs) 64 [.ref (115 + 7 * s), .int (nI b.toNat)] (zMH h m) = some (.inl (some (.int (nI (if b = true ∧ W.length ≠ 0 then zPn O W W.length else W.length)))), zMH h m) := by
  rw [en_64]
  obtain ⟨h1, h2, h3⟩ := hW
  cases b with
  | false =>
    rw [if_neg (fun q => by cases q.1), ← h1]
    exact p64_0_3 hx hs rfl
  | true =>
    by_cases q : W.length = 0
    · rw [if_neg (fun z => z.2 q), ← h1]
      exact p64_0_2 hx hs rfl (by omega)
    · rw [if_pos ⟨rfl, q⟩]
      obtain ⟨g1, -, -, g2, g3, -⟩ := h3 (W.length - 1) (by omega)
      exact p64_0_1 hx hs rfl (by omega) (by rw [h1]; exact g1) g2.2.2 g3 (by omega) (by omega) (by omega) (by omega)
theorem s66 (hx : zFx h) (hs : s < 3) (hW : zWv h m O s W) {lo hi : Nat} {b : Bool} (hlo : lo < 2147483648) (hhi : hi < 2147483648) : zCl (zPr L xs) 66 [.ref (115 + 7 * s), .int (nI lo), .int (nI hi), .int (nI b.toNat)] (zMH h m) = some (.inl (some (.long (nL (zMk (fun n => zPg O W n && decide (lo ≤ (if b then zPn O W n else n) ∧ (if b then zPn O W n else n) ≤ hi)) W.length)))), zMH h m) := by
  have tt : true.toNat < 2147483648 := by decide
  rw [en_66]
  obtain ⟨h1, h2, h3⟩ := hW
  obtain ⟨P, hP⟩ : ∃ P : Nat → Bool, P = fun n => zPg O W n && decide (lo ≤ (if b then zPn O W n else n) ∧ (if b then zPn O W n else n) ≤ hi) := ⟨_, rfl⟩
  rw [← hP]
  have lp : ∀ f i (w7 : Slot), w7 ≠ .second → f + i = W.length → zEv (zPr L xs) 0 66 6 [.val (.ref (115 + 7 * s)), .val (.int (nI lo)), .val (.int (nI hi)), .val (.int (nI b.toNat)), .val (.long (nL (zMk P i))), .second, .val (.int (nI i)), w7] [] (zMH h m) = some (.inl (some (.long (nL (zMk P W.length)))), zMH h m) := by
    intro f
    induction f with
    | zero =>
      intro i w7 hw hf
      rw [show i = W.length by omega]
      exact p66_6_9 hx hs (by omega) (by omega) (by omega)
    | succ f ih =>
      intro i w7 hw hf
      obtain ⟨g1, -, -, g2, g3, -, g4, g5, -⟩ := h3 i (by omega)
      have c1 : i < m 402 (115 + 7 * s) 0 := by omega
      have PP : P (i + 1) = (!(O (zWo W i)).2.2.1 && decide (lo ≤ (if b then (O (zWo W i)).1 else i + 1) ∧ (if b then (O (zWo W i)).1 else i + 1) ≤ hi)) := by rw [hP]; rfl
      have mk : zMk P (i + 1) = zMk P i ||| (if P (i + 1) then 2 ^ i else 0) := rfl
      have yes : P (i + 1) = true → (nL (zMk P i)) ||| ((nL 1) <<< ((nI i).toInt64 &&& 63)) = nL (zMk P (i + 1)) := fun q => by rw [mk, if_pos q, zl_set (by omega)]
      have no : P (i + 1) = false → zMk P (i + 1) = zMk P i := fun q => by rw [mk, q, if_neg Bool.noConfusion, Nat.or_zero]
      have ng : (O (zWo W i)).1 < 2147483648 := by omega
      cases hg : (O (zWo W i)).2.2.1 with
      | true =>
        rw [hg] at g4 PP
        have pf : P (i + 1) = false := PP
        have ih' := ih (i + 1)
        rw [no pf] at ih'
        cases hb : b with
        | true =>
          rw [hb] at ih'
          exact (p66_6_4 (x3 := true) hx hs c1 rfl g1 g2.2.2 g3 g1 g2.2.2 g4 (by decide)).trans (ih' _ zsecn (by omega))
        | false =>
          rw [hb] at ih'
          exact (p66_6_8 (x3 := false) hx hs c1 rfl g1 g2.2.2 g4 (by decide)).trans (ih' _ zsecn (by omega))
      | false =>
        rw [hg] at g4 PP
        have PP : P (i + 1) = decide (lo ≤ (if b then (O (zWo W i)).1 else i + 1) ∧ (if b then (O (zWo W i)).1 else i + 1) ≤ hi) := PP
        have ih' := ih (i + 1)
        cases hb : b with
        | true =>
          rw [hb] at ih' PP
          rw [if_pos rfl] at PP
          by_cases q1 : lo ≤ (O (zWo W i)).1
          · by_cases q2 : (O (zWo W i)).1 ≤ hi
            · rw [decide_eq_true ⟨q1, q2⟩] at PP
              refine (p66_6_1 (x3 := true) hx hs c1 rfl g1 g2.2.2 g3 g1 g2.2.2 g4 rfl q1 q2).trans ?_
              rw [yes PP]
              exact ih' _ zsecn (by omega)
            · rw [decide_eq_false (fun z => q2 z.2)] at PP
              rw [no PP] at ih'
              exact (p66_6_2 (x3 := true) hx hs c1 rfl g1 g2.2.2 g3 g1 g2.2.2 g4 rfl q1 (by omega)).trans (ih' _ zsecn (by omega))
          · rw [decide_eq_false (fun z => q1 z.1)] at PP
            rw [no PP] at ih'
            exact (p66_6_3 (x3 := true) hx hs c1 rfl g1 g2.2.2 g3 g1 g2.2.2 g4 rfl (by omega)).trans (ih' _ zsecn (by omega))
        | false =>
          rw [hb] at ih' PP
          rw [if_neg Bool.noConfusion] at PP
          by_cases q1 : lo ≤ i + 1
          · by_cases q2 : i + 1 ≤ hi
            · rw [decide_eq_true ⟨q1, q2⟩] at PP
              refine (p66_6_5 (x3 := false) hx hs c1 rfl g1 g2.2.2 g4 rfl q1 q2).trans ?_
              rw [yes PP]
              exact ih' _ zsecn (by omega)
            · rw [decide_eq_false (fun z => q2 z.2)] at PP
              rw [no PP] at ih'
              exact (p66_6_6 (x3 := false) hx hs c1 rfl g1 g2.2.2 g4 rfl q1 (by omega)).trans (ih' _ zsecn (by omega))
          · rw [decide_eq_false (fun z => q1 z.1)] at PP
            rw [no PP] at ih'
            exact (p66_6_7 (x3 := false) hx hs c1 rfl g1 g2.2.2 g4 rfl (by omega)).trans (ih' _ zsecn (by omega))
  exact (p66_0_1 hx hs).trans (lp W.length 0 _ zsecu rfl)
theorem s65 (hx : zFx h) (hs : s < 3) (hW : zWv h m O s W) : zCl (zPr L xs) 65 [.ref (115 + 7 * s)] (zMH h m) = some (.inl (some (.long (nL (zMk (zPg O W) W.length)))), zMH h m) := by
  have e := s66 (L := L) (xs := xs) (lo := 1) (hi := W.length) (b := false) hx hs hW (by decide) (by have := hW.2.1; omega)
  have z : zMk (fun n => zPg O W n && decide (1 ≤ (if false = true then zPn O W n else n) ∧ (if false = true then zPn O W n else n) ≤ W.length)) W.length = zMk (zPg O W) W.length := by
    refine zMk_cg _ fun k h1 h2 => ?_
    rw [if_neg Bool.noConfusion, decide_eq_true ⟨h1, h2⟩, Bool.and_true]
  rw [z] at e
  rw [en_65]
  refine p65_0_1 hx hs ?_
  rw [hW.1]
  exact e
theorem s67 (hx : zFx h) (hs : s < 3) (hW : zWv h m O s W) {f0 : Nat} (hf0 : f0 < 16) : zCl (zPr L xs) 67 [.ref (115 + 7 * s), .int (nI f0)] (zMH h m) = some (.inl (some (.long (nL (zMk (fun n => zPg O W n && decide (zPf' O W n &&& f0 ≠ 0)) W.length)))), zMH h m) := by
  have tt : true.toNat < 2147483648 := by decide
  rw [en_67]
  obtain ⟨h1, h2, h3⟩ := hW
  obtain ⟨P, hP⟩ : ∃ P : Nat → Bool, P = fun n => zPg O W n && decide (zPf' O W n &&& f0 ≠ 0) := ⟨_, rfl⟩
  rw [← hP]
  have lp : ∀ f i, f + i = W.length → zEv (zPr L xs) 0 67 5 [.val (.ref (115 + 7 * s)), .val (.int (nI f0)), .val (.long (nL (zMk P i))), .second, .val (.int (nI i))] [] (zMH h m) = some (.inl (some (.long (nL (zMk P W.length)))), zMH h m) := by
    intro f
    induction f with
    | zero =>
      intro i hf
      rw [show i = W.length by omega]
      exact p67_5_4 hx hs (by omega) (by omega) (by omega)
    | succ f ih =>
      intro i hf
      obtain ⟨g1, -, -, g2, -, g3, g4, g5, -⟩ := h3 i (by omega)
      have c1 : i < m 402 (115 + 7 * s) 0 := by omega
      have PP : P (i + 1) = (!(O (zWo W i)).2.2.1 && decide ((O (zWo W i)).2.1 &&& f0 ≠ 0)) := by rw [hP]; rfl
      have mk : zMk P (i + 1) = zMk P i ||| (if P (i + 1) then 2 ^ i else 0) := rfl
      have yes : P (i + 1) = true → (nL (zMk P i)) ||| ((nL 1) <<< ((nI i).toInt64 &&& 63)) = nL (zMk P (i + 1)) := fun q => by rw [mk, if_pos q, zl_set (by omega)]
      have no : P (i + 1) = false → zMk P (i + 1) = zMk P i := fun q => by rw [mk, q, if_neg Bool.noConfusion, Nat.or_zero]
      have ih' := ih (i + 1) (by omega)
      have al : (O (zWo W i)).2.1 &&& f0 ≤ (O (zWo W i)).2.1 := Nat.and_le_left
      cases hg : (O (zWo W i)).2.2.1 with
      | true =>
        rw [hg] at g4 PP
        rw [no PP] at ih'
        exact (p67_5_3 hx hs c1 g1 g2.2.2 g4 (by decide)).trans ih'
      | false =>
        rw [hg] at g4 PP
        have PP : P (i + 1) = decide ((O (zWo W i)).2.1 &&& f0 ≠ 0) := PP
        by_cases q : (O (zWo W i)).2.1 &&& f0 = 0
        · rw [decide_eq_false (fun z => z q)] at PP
          rw [no PP] at ih'
          exact (p67_5_2 hx hs c1 g1 g2.2.2 g4 rfl g1 g2.2.2 g3 q).trans ih'
        · rw [decide_eq_true q] at PP
          refine (p67_5_1 hx hs c1 g1 g2.2.2 g4 rfl g1 g2.2.2 g3 q).trans ?_
          rw [yes PP]
          exact ih'
  exact (p67_0_1 hx hs).trans (lp W.length 0 rfl)
theorem s69 {p q : Nat} {T S : List Nat} (hx : zFx h) (hT : zSt h p T) (hS : zSt h q S) : zCl (zPr L xs) 69 [.ref p, .ref q] (zMH h m) = some (.inl (some (.int (nI (zct T S).toNat))), zMH h m) := by
  rw [en_69]
  have tp := zSt_t (m := m) hT
  have tq := zSt_t (m := m) hS
  have lT := hT.1.2
  have lS := hS.1.2
  have lt : ∀ {T : List Nat}, (∀ x ∈ T, x < 127) → ∀ i, i < T.length → T.getD i 0 < 2147483648 := fun {T} hh i hi => by
    rw [List.getD_eq_getElem?_getD, List.getElem?_eq_getElem hi]
    have := hh _ (List.getElem_mem hi)
    exact Nat.lt_trans this (by decide)
  have inner : ∀ k j fr, k + j = S.length → fr + S.length ≤ T.length → ∃ w', w' ≠ Slot.second ∧ zEv (zPr L xs) 4 69 17 [.val (.ref p), .val (.ref q), .val (.int (nI fr)), .val (.int (nI j))] [] (zMH h m) = if zw1 (fun q => T.getD q 0) (fun q => S.getD q 0) fr 0 k j = true then some (.inl (some (.int (nI 1))), zMH h m) else zEv (zPr L xs) 4 69 2 [.val (.ref p), .val (.ref q), .val (.int (nI (fr + 1))), w'] [] (zMH h m) := by
    intro k
    induction k with
    | zero =>
      intro j fr hk hf
      refine ⟨.unset, zsecu, ?_⟩
      rw [if_pos (show zw1 (fun q => T.getD q 0) (fun q => S.getD q 0) fr 0 0 j = true from rfl)]
      exact p69_17_4 hx tq (s3 hS) (by omega) (s3 hS) (by omega) (by omega) (by omega)
    | succ k ih =>
      intro j fr hk hf
      have l1 := lt hT.1.1 (fr + j) (by omega)
      have l2 := lt hS.1.1 j (by omega)
      have z : zw1 (fun q => T.getD q 0) (fun q => S.getD q 0) fr 0 (k + 1) j = (decide (T.getD (fr + j) 0 = S.getD j 0) && zw1 (fun q => T.getD q 0) (fun q => S.getD q 0) fr 0 k (j + 1)) := by
        show (decide (T.getD (fr + j) 0 = S.getD (0 + j) 0) && _) = _
        rw [Nat.zero_add]
      rw [z]
      by_cases e : T.getD (fr + j) 0 = S.getD j 0
      · rw [decide_eq_true e, Bool.true_and]
        obtain ⟨w', hw, e'⟩ := ih (j + 1) fr (by omega) hf
        exact ⟨w', hw, (p69_17_1 hx tq (s3 hS) (by omega) tp (s4 hT (by omega)) (s4 hS (by omega)) e (by omega) (by omega)).trans e'⟩
      · rw [decide_eq_false e, Bool.false_and]
        refine ⟨.val (.int (nI j)), zsecn, ?_⟩
        rw [if_neg Bool.noConfusion]
        exact p69_17_3 hx tq (s3 hS) (by omega) tp (s4 hT (by omega)) (s4 hS (by omega)) e (s3 hS) (by omega) (by omega) (by omega) l1 l2
  have outer : ∀ f fr (w : Slot), w ≠ .second → f + fr = T.length + 1 - S.length → zEv (zPr L xs) 4 69 2 [.val (.ref p), .val (.ref q), .val (.int (nI fr)), w] [] (zMH h m) = some (.inl (some (.int (nI (zw2 (fun q => T.getD q 0) (fun q => S.getD q 0) 0 S.length f fr).toNat))), zMH h m) := by
    intro f
    induction f with
    | zero =>
      intro fr w hw hf
      exact p69_2_2 hx tq (s3 hS) tp (s3 hT) (by omega) (by omega) (by omega)
    | succ f ih =>
      intro fr w hw hf
      obtain ⟨w', hw', e'⟩ := inner S.length 0 fr rfl (by omega)
      refine (p69_2_1 hx tq (s3 hS) tp (s3 hT) (by omega) hw (by omega) (by omega)).trans (e'.trans ?_)
      have z : zw2 (fun q => T.getD q 0) (fun q => S.getD q 0) 0 S.length (f + 1) fr = (zw1 (fun q => T.getD q 0) (fun q => S.getD q 0) fr 0 S.length 0 || zw2 (fun q => T.getD q 0) (fun q => S.getD q 0) 0 S.length f (fr + 1)) := rfl
      rw [z]
      by_cases c : zw1 (fun q => T.getD q 0) (fun q => S.getD q 0) fr 0 S.length 0 = true
      · rw [if_pos c, c]
        rfl
      · rw [if_neg c, ih (fr + 1) w' hw' (by omega)]
        have : zw1 (fun q => T.getD q 0) (fun q => S.getD q 0) fr 0 S.length 0 = false := by
          cases y : zw1 (fun q => T.getD q 0) (fun q => S.getD q 0) fr 0 S.length 0 with
          | true => exact absurd y c
          | false => rfl
        rw [this, Bool.false_or]
  exact (p69_0_1 hx).trans (outer _ 0 _ zsecu rfl)
theorem s68 (hx : zFx h) (hs : s < 3) (hW : zWv h m O s W) {p : Nat} {S : List Nat} (hS : zSt h p S) : zCl (zPr L xs) 68 [.ref (115 + 7 * s), .ref p] (zMH h m) = some (.inl (some (.long (nL (zMk (fun n => zPg O W n && zct (zPt O W n) S) W.length)))), zMH h m) := by
  have tt : true.toNat < 2147483648 := by decide
  rw [en_68]
  obtain ⟨h1, h2, h3⟩ := hW
  obtain ⟨P, hP⟩ : ∃ P : Nat → Bool, P = fun n => zPg O W n && zct (zPt O W n) S := ⟨_, rfl⟩
  rw [← hP]
  have lp : ∀ f i, f + i = W.length → zEv (zPr L xs) 5 68 5 [.val (.ref (115 + 7 * s)), .val (.ref p), .val (.long (nL (zMk P i))), .second, .val (.int (nI i))] [] (zMH h m) = some (.inl (some (.long (nL (zMk P W.length)))), zMH h m) := by
    intro f
    induction f with
    | zero =>
      intro i hf
      rw [show i = W.length by omega]
      exact p68_5_4 hx hs (by omega) (by omega) (by omega)
    | succ f ih =>
      intro i hf
      obtain ⟨g1, -, -, g2, -, -, g4, g5, tx, g6, g7⟩ := h3 i (by omega)
      have c1 : i < m 402 (115 + 7 * s) 0 := by omega
      have PP : P (i + 1) = (!(O (zWo W i)).2.2.1 && zct (O (zWo W i)).2.2.2 S) := by rw [hP]; rfl
      have mk : zMk P (i + 1) = zMk P i ||| (if P (i + 1) then 2 ^ i else 0) := rfl
      have yes : P (i + 1) = true → (nL (zMk P i)) ||| ((nL 1) <<< ((nI i).toInt64 &&& 63)) = nL (zMk P (i + 1)) := fun q => by rw [mk, if_pos q, zl_set (by omega)]
      have no : P (i + 1) = false → zMk P (i + 1) = zMk P i := fun q => by rw [mk, q, if_neg Bool.noConfusion, Nat.or_zero]
      have ih' := ih (i + 1) (by omega)
      have e69 := s69 (L := L) (xs := xs) (m := m) hx g7 hS
      cases hg : (O (zWo W i)).2.2.1 with
      | true =>
        rw [hg] at g4 PP
        rw [no PP] at ih'
        exact (p68_5_3 hx hs c1 g1 g2.2.2 g4 (by decide)).trans ih'
      | false =>
        rw [hg] at g4 PP
        have PP : P (i + 1) = zct (O (zWo W i)).2.2.2 S := PP
        cases q : zct (O (zWo W i)).2.2.2 S with
        | false =>
          rw [q] at PP e69
          rw [no PP] at ih'
          exact (p68_5_2 hx hs c1 g1 g2.2.2 g4 rfl g1 g2.2.2 g6 (y1 := false) e69 rfl).trans ih'
        | true =>
          rw [q] at PP e69
          refine (p68_5_1 hx hs c1 g1 g2.2.2 g4 rfl g1 g2.2.2 g6 (y1 := true) e69 rfl).trans ?_
          rw [yes PP]
          exact ih'
  exact (p68_0_1 hx hs).trans (lp W.length 0 rfl)
end
