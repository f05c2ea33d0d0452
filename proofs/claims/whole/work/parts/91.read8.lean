/-! ===== the class's reader: keys ===== -/
theorem zMk_not (P Q : Nat → Bool) (n : Nat) : nL (zMk P n) &&& (nL (zMk Q n) ^^^ nL 18446744073709551615) = nL (zMk (fun k => P k && !Q k) n) := by
  apply Int64.toBitVec_inj.mp
  show BitVec.ofNat 64 (zMk P n) &&& (BitVec.ofNat 64 (zMk Q n) ^^^ BitVec.ofNat 64 18446744073709551615) = BitVec.ofNat 64 (zMk (fun k => P k && !Q k) n)
  apply BitVec.eq_of_getLsbD_eq
  intro i hi
  have t : Nat.testBit 18446744073709551615 i = true := (Nat.testBit_two_pow_sub_one 64 i).trans (decide_eq_true hi)
  rw [BitVec.getLsbD_and, BitVec.getLsbD_xor, BitVec.getLsbD_ofNat, BitVec.getLsbD_ofNat, BitVec.getLsbD_ofNat, BitVec.getLsbD_ofNat, t, zMk_tb, zMk_tb, zMk_tb, decide_eq_true hi]
  cases decide (i < n) <;> cases P (i + 1) <;> cases Q (i + 1) <;> rfl
/-- a sign that no key can have behind it -/
def zdm (x : Nat) : Bool := decide (x ≠ 0 ∧ x ≠ 32 ∧ x ≠ 41)
theorem zdm_d {x : Nat} (h : zdig x = true) : zdm x = true := by
  have := zdig_iff.1 h
  exact decide_eq_true (by omega)
theorem zdm_l {x : Nat} (h : zlrg x = true) : zdm x = true := by
  have := zlrg_iff.1 h
  exact decide_eq_true (by omega)
def zEc (O : zOt) (W : List (Nat × Nat)) (c : Nat → Nat) : zEnv := (W.length, zlst O W true, zPn O W, zPf' O W, fun n ta tl => zct (zPt O W n) ((List.range tl).map fun i => c (ta + i)))
/-- what the reader makes of keys -/
def zKr (O : zOt) (W : List (Nat × Nat)) (c : Nat → Nat) (b : Bool) (f d a : Nat) (bd wr : Bool) (M a' : Nat) (bd' wr' : Bool) : Prop := (bd = true → bd' = true) ∧ (bd = false → match zks c (zEc O W c) f b d a with
  | some (e, w, P) => bd' = false ∧ a' = e ∧ M = zMk (fun n => zPg O W n && P n) W.length ∧ wr' = (wr || w)
  | none => bd' = true ∨ zdm (c a') = true)
theorem zw_no {c : Nat → Nat} (hc : zCh c) {T : List Nat} {a : Nat} (hT : zWd T) (q : zmw c a T = false) : zwn c a ≠ zen T := fun e => by
  rw [(zwn_to hc hT e).1] at q
  cases q
theorem zmw_ap {c : Nat → Nat} : ∀ (T : List Nat) (a x : Nat), zmw c a (T ++ [x]) = (zmw c a T && decide (c (a + T.length) = x))
  | [], a, x => by
    show (decide (c a = x) && true) = (true && decide (c (a + 0) = x))
    rw [Bool.and_true, Bool.true_and]
    rfl
  | t :: T, a, x => by
    show (decide (c a = t) && zmw c (a + 1) (T ++ [x])) = ((decide (c a = t) && zmw c (a + 1) T) && decide (c (a + (T.length + 1)) = x))
    rw [zmw_ap T (a + 1) x, Bool.and_assoc, show a + 1 + T.length = a + (T.length + 1) by omega]
/-- a word with a blank behind it -/
theorem zw_32 {c : Nat → Nat} (hc : zCh c) {T : List Nat} {a : Nat} (hT : zWd T) : (zmw c a (T ++ [32]) = true → zwn c a = zen T ∧ zre zlrg c a = a + T.length ∧ c (zre zlrg c a) = 32) ∧ (zmw c a (T ++ [32]) = false → zwn c a = zen T → c (zre zlrg c a) ≠ 32) := by
  constructor
  · intro h
    rw [zmw_ap, Bool.and_eq_true, decide_eq_true_eq] at h
    obtain ⟨e1, e2⟩ := zwn_of hc hT h.1 (by rw [h.2]; rfl)
    exact ⟨e1, e2, by rw [e2]; exact h.2⟩
  · intro h e z
    obtain ⟨e1, e2⟩ := zwn_to hc hT e
    rw [zmw_ap, e1, ← e2, z] at h
    cases h
theorem zmw_hd {c : Nat → Nat} {a t : Nat} {T : List Nat} (h : zmw c a (t :: T) = true) : c a = t := by
  unfold zmw at h
  rw [Bool.and_eq_true] at h
  exact of_decide_eq_true h.1
theorem zwd (T : List Nat) (h : (decide (1 ≤ T.length ∧ T.length ≤ 7) && T.all fun t => decide (65 ≤ t ∧ t ≤ 90)) = true) : zWd T := by
  rw [Bool.and_eq_true, List.all_eq_true] at h
  have z := of_decide_eq_true h.1
  exact ⟨z.1, z.2, fun t ht => of_decide_eq_true (h.2 t ht)⟩
theorem zen_hd {c : Nat → Nat} (hc : zCh c) {a t : Nat} {T : List Nat} (hT : zWd (t :: T)) (h : c a ≠ t) : zwn c a ≠ zen (t :: T) := fun e => h (zmw_hd (zwn_to hc hT e).1)
/-- what the reference's words are called -/
theorem zens : zen [78, 79, 84] = 15556673536 ∧ zen [79, 82] = 16710107136 ∧ zen [65, 76, 76] = 1488977920 ∧ zen [72, 65, 83] = 8643411968 ∧ zen [84, 69, 88, 84] = 21668429824 ∧ zen [85, 73, 68] = 22854762496 := ⟨rfl, rfl, rfl, rfl, rfl, rfl⟩
/-- keys without others in them, by the class's words -/
theorem zks_all {c : Nat → Nat} (hc : zCh c) {E : zEnv} {f d a : Nat} (hd : ¬ 8 < d) (h : zmw c a [65, 76, 76] = true) : zks c E (f + 1) false d a = if zlrg (c (a + 3)) = true then none else some (a + 3, false, fun _ => true) := by
  have c0 := zmw_hd h
  have n1 := zen_hd hc (zwd [78, 79, 84] rfl) (show c a ≠ 78 by omega)
  have n2 := zen_hd hc (zwd [79, 82] rfl) (show c a ≠ 79 by omega)
  have n3 := zen_hd hc (zwd [72, 65, 83] rfl) (show c a ≠ 72 by omega)
  have n4 := zen_hd hc (zwd [84, 69, 88, 84] rfl) (show c a ≠ 84 by omega)
  have n5 := zen_hd hc (zwd [85, 73, 68] rfl) (show c a ≠ 85 by omega)
  rw [zens.1] at n1
  rw [zens.2.1] at n2
  rw [zens.2.2.2.1] at n3
  rw [zens.2.2.2.2.1] at n4
  rw [zens.2.2.2.2.2] at n5
  unfold zks zleaf
  have lg : ¬ zlrg (c a) = false := by rw [zlrg_iff.2 (by omega)]; exact Bool.noConfusion
  rw [if_neg hd, if_neg (by omega), if_neg n1, if_neg n2, if_neg lg]
  by_cases q : zlrg (c (a + 3)) = true
  · rw [if_pos q, if_neg (fun e => ?_), if_neg n3, if_neg n4, if_neg n5]
    have z := (zwn_to hc (zwd [65, 76, 76] rfl) (e.trans zens.2.2.1.symm)).2
    have z : zre zlrg c a = a + 3 := z
    have y := (zre_ge (f := zlrg) hc rfl a).2.2
    rw [z, q] at y
    cases y
  · rw [if_neg q]
    have q : zlrg (c (a + 3)) = false := by cases z : zlrg (c (a + 3)) with
      | true => exact absurd z q
      | false => rfl
    obtain ⟨z1, z2⟩ := zwn_of hc (zwd [65, 76, 76] rfl) h q
    rw [if_pos (z1.trans zens.2.2.1), z2]
    rfl
theorem zks_has {c : Nat → Nat} (hc : zCh c) {E : zEnv} {f d a : Nat} (hd : ¬ 8 < d) (h : zmw c a [72, 65, 83, 32] = true) : zks c E (f + 1) false d a = if zbit (c (a + 4)) ≠ 0 then some (a + 5, false, fun n => decide (E.2.2.2.1 n &&& zbit (c (a + 4)) ≠ 0)) else none := by
  have c0 := zmw_hd h
  obtain ⟨z1, z2, z3⟩ := (zw_32 hc (zwd [72, 65, 83] rfl)).1 h
  have n1 := zen_hd hc (zwd [78, 79, 84] rfl) (show c a ≠ 78 by omega)
  have n2 := zen_hd hc (zwd [79, 82] rfl) (show c a ≠ 79 by omega)
  have n3 := zen_hd hc (zwd [65, 76, 76] rfl) (show c a ≠ 65 by omega)
  rw [zens.1] at n1
  rw [zens.2.1] at n2
  rw [zens.2.2.1] at n3
  have lg : ¬ zlrg (c a) = false := by rw [zlrg_iff.2 (by omega)]; exact Bool.noConfusion
  unfold zks zleaf
  rw [if_neg hd, if_neg (by omega), if_neg n1, if_neg n2, if_neg lg, if_neg n3, if_pos (z1.trans zens.2.2.2.1)]
  have z2 : zre zlrg c a = a + 3 := z2
  rw [z2] at z3 ⊢
  by_cases q : zbit (c (a + 3 + 1)) ≠ 0
  · rw [if_pos ⟨z3, q⟩, if_pos q]
  · rw [if_neg (fun z => q z.2), if_neg q]
theorem zks_txt {c : Nat → Nat} (hc : zCh c) {E : zEnv} {f d a : Nat} (hd : ¬ 8 < d) (h : zmw c a [84, 69, 88, 84, 32] = true) : zks c E (f + 1) false d a = if 1 ≤ zre zsml c (a + 5) - (a + 5) ∧ zre zsml c (a + 5) - (a + 5) ≤ 6 then some (zre zsml c (a + 5), false, fun n => E.2.2.2.2 n (a + 5) (zre zsml c (a + 5) - (a + 5))) else none := by
  have c0 := zmw_hd h
  obtain ⟨z1, z2, z3⟩ := (zw_32 hc (zwd [84, 69, 88, 84] rfl)).1 h
  have n1 := zen_hd hc (zwd [78, 79, 84] rfl) (show c a ≠ 78 by omega)
  have n2 := zen_hd hc (zwd [79, 82] rfl) (show c a ≠ 79 by omega)
  have n3 := zen_hd hc (zwd [65, 76, 76] rfl) (show c a ≠ 65 by omega)
  have n4 := zen_hd hc (zwd [72, 65, 83] rfl) (show c a ≠ 72 by omega)
  rw [zens.1] at n1
  rw [zens.2.1] at n2
  rw [zens.2.2.1] at n3
  rw [zens.2.2.2.1] at n4
  have lg : ¬ zlrg (c a) = false := by rw [zlrg_iff.2 (by omega)]; exact Bool.noConfusion
  unfold zks zleaf
  rw [if_neg hd, if_neg (by omega), if_neg n1, if_neg n2, if_neg lg, if_neg n3, if_neg n4, if_pos (z1.trans zens.2.2.2.2.1)]
  have z2 : zre zlrg c a = a + 4 := z2
  rw [z2] at z3 ⊢
  by_cases q : 1 ≤ zre zsml c (a + 4 + 1) - (a + 4 + 1) ∧ zre zsml c (a + 4 + 1) - (a + 4 + 1) ≤ 6
  · rw [if_pos ⟨z3, q⟩, if_pos q]
  · rw [if_neg (fun z => q z.2), if_neg q]
theorem zks_uid {c : Nat → Nat} (hc : zCh c) {E : zEnv} {f d a : Nat} (hd : ¬ 8 < d) (h : zmw c a [85, 73, 68, 32] = true) : zks c E (f + 1) false d a = match zset c 64 (a + 4) with
    | none => none
    | some (l, e) => some (e, false, fun n => zrsin l (E.2.2.1 n) E.2.1) := by
  have c0 := zmw_hd h
  obtain ⟨z1, z2, z3⟩ := (zw_32 hc (zwd [85, 73, 68] rfl)).1 h
  have n1 := zen_hd hc (zwd [78, 79, 84] rfl) (show c a ≠ 78 by omega)
  have n2 := zen_hd hc (zwd [79, 82] rfl) (show c a ≠ 79 by omega)
  have n3 := zen_hd hc (zwd [65, 76, 76] rfl) (show c a ≠ 65 by omega)
  have n4 := zen_hd hc (zwd [72, 65, 83] rfl) (show c a ≠ 72 by omega)
  have n5 := zen_hd hc (zwd [84, 69, 88, 84] rfl) (show c a ≠ 84 by omega)
  rw [zens.1] at n1
  rw [zens.2.1] at n2
  rw [zens.2.2.1] at n3
  rw [zens.2.2.2.1] at n4
  rw [zens.2.2.2.2.1] at n5
  have lg : ¬ zlrg (c a) = false := by rw [zlrg_iff.2 (by omega)]; exact Bool.noConfusion
  unfold zks zleaf
  rw [if_neg hd, if_neg (by omega), if_neg n1, if_neg n2, if_neg lg, if_neg n3, if_neg n4, if_neg n5, if_pos (z1.trans zens.2.2.2.2.2)]
  have z2 : zre zlrg c a = a + 3 := z2
  rw [z2] at z3 ⊢
  rw [if_pos z3, show a + 3 + 1 = a + 4 from rfl]
  cases zset c 64 (a + 4) <;> rfl
theorem zks_not {c : Nat → Nat} (hc : zCh c) {E : zEnv} {f d a : Nat} (hd : ¬ 8 < d) (h : zmw c a [78, 79, 84, 32] = true) : zks c E (f + 1) false d a = match zks c E f false (d + 1) (a + 4) with
    | none => none
    | some (e, w, k) => some (e, w, fun n => !k n) := by
  have c0 := zmw_hd h
  obtain ⟨z1, z2, z3⟩ := (zw_32 hc (zwd [78, 79, 84] rfl)).1 h
  show (if 8 < d then none else if c a = 40 then _ else if zwn c a = 15556673536 then (if c (zre zlrg c a) = 32 then (match zks c E f false (d + 1) (zre zlrg c a + 1) with
    | none => none
    | some (e, w, k) => some (e, w, fun n => !k n)) else none) else _) = _
  rw [if_neg hd, if_neg (by omega), if_pos (z1.trans zens.1), if_pos z3]
  have z2 : zre zlrg c a = a + 3 := z2
  rw [z2]
theorem zks_or {c : Nat → Nat} (hc : zCh c) {E : zEnv} {f d a : Nat} (hd : ¬ 8 < d) (h : zmw c a [79, 82, 32] = true) : zks c E (f + 1) false d a = match zks c E f false (d + 1) (a + 3) with
    | none => none
    | some (e, w, k) => if c e = 32 then (match zks c E f false (d + 1) (e + 1) with
      | none => none
      | some (e2, w2, k2) => some (e2, w || w2, fun n => k n || k2 n)) else none := by
  have c0 := zmw_hd h
  obtain ⟨z1, z2, z3⟩ := (zw_32 hc (zwd [79, 82] rfl)).1 h
  have n1 := zen_hd hc (zwd [78, 79, 84] rfl) (show c a ≠ 78 by omega)
  rw [zens.1] at n1
  show (if 8 < d then none else if c a = 40 then _ else if zwn c a = 15556673536 then _ else if zwn c a = 16710107136 then (if c (zre zlrg c a) = 32 then (match zks c E f false (d + 1) (zre zlrg c a + 1) with
    | none => none
    | some (e, w, k) => if c e = 32 then (match zks c E f false (d + 1) (e + 1) with
      | none => none
      | some (e2, w2, k2) => some (e2, w || w2, fun n => k n || k2 n)) else none) else none) else _) = _
  rw [if_neg hd, if_neg (by omega), if_neg n1, if_pos (z1.trans zens.2.1), if_pos z3]
  have z2 : zre zlrg c a = a + 2 := z2
  rw [z2]
theorem zks_br {c : Nat → Nat} {E : zEnv} {f d a : Nat} (hd : ¬ 8 < d) (h : c a = 40) : zks c E (f + 1) false d a = match zks c E f true (d + 1) (a + 1) with
    | none => none
    | some (e, w, k) => if c e = 41 then some (e + 1, w, k) else none := by
  show (if 8 < d then none else if c a = 40 then (match zks c E f true (d + 1) (a + 1) with
    | none => none
    | some (e, w, k) => if c e = 41 then some (e + 1, w, k) else none) else _) = _
  rw [if_neg hd, if_pos h]
theorem zks_set {c : Nat → Nat} (hc : zCh c) {E : zEnv} {f d a : Nat} (hd : ¬ 8 < d) (h40 : c a ≠ 40) (q1 : zmw c a [65, 76, 76] = false) (q2 : zmw c a [72, 65, 83, 32] = false) (q3 : zmw c a [84, 69, 88, 84, 32] = false) (q4 : zmw c a [85, 73, 68, 32] = false) (q5 : zmw c a [78, 79, 84, 32] = false) (q6 : zmw c a [79, 82, 32] = false) : zks c E (f + 1) false d a = if zlrg (c a) = false then (match zset c 64 a with
    | none => none
    | some (l, e) => some (e, zrsw l E.1, fun n => zrsin l n E.1)) else none := by
  have n0 := zw_no hc (zwd [65, 76, 76] rfl) q1
  rw [zens.2.2.1] at n0
  have w2 := (zw_32 hc (zwd [72, 65, 83] rfl)).2 q2
  have w3 := (zw_32 hc (zwd [84, 69, 88, 84] rfl)).2 q3
  have w4 := (zw_32 hc (zwd [85, 73, 68] rfl)).2 q4
  have w5 := (zw_32 hc (zwd [78, 79, 84] rfl)).2 q5
  have w6 := (zw_32 hc (zwd [79, 82] rfl)).2 q6
  rw [zens.2.2.2.1] at w2
  rw [zens.2.2.2.2.1] at w3
  rw [zens.2.2.2.2.2] at w4
  rw [zens.1] at w5
  rw [zens.2.1] at w6
  by_cases lg : zlrg (c a) = false
  · have nl : ∀ T : List Nat, zWd T → zwn c a ≠ zen T := fun T hT e => by
      have z := (zwn_to hc hT e).2
      rw [zre_f lg] at z
      have := hT.1
      omega
    have n1 := nl _ (zwd [78, 79, 84] rfl)
    have n2 := nl _ (zwd [79, 82] rfl)
    rw [zens.1] at n1
    rw [zens.2.1] at n2
    unfold zks zleaf
    rw [if_neg hd, if_neg h40, if_neg n1, if_neg n2, if_pos lg, if_pos lg]
    cases zset c 64 a <;> rfl
  · rw [if_neg lg]
    unfold zks zleaf
    rw [if_neg hd, if_neg h40]
    by_cases e5 : zwn c a = 15556673536
    · rw [if_pos e5, if_neg (w5 e5)]
    rw [if_neg e5]
    by_cases e6 : zwn c a = 16710107136
    · rw [if_pos e6, if_neg (w6 e6)]
    rw [if_neg e6, if_neg lg, if_neg n0]
    by_cases e2 : zwn c a = 8643411968
    · rw [if_pos e2, if_neg (fun z => w2 e2 z.1)]
    rw [if_neg e2]
    by_cases e3 : zwn c a = 21668429824
    · rw [if_pos e3, if_neg (fun z => w3 e3 z.1)]
    rw [if_neg e3]
    by_cases e4 : zwn c a = 22854762496
    · rw [if_pos e4, if_neg (w4 e4)]
    rw [if_neg e4]
