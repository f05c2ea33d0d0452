/-! ===== the reference refuses ===== -/
theorem zi_inj32 {a b : Nat} (ha : a < 4294967296) (hb : b < 4294967296) : nI a = nI b ↔ a = b := by
  constructor
  · intro h
    have h1 : (nI a).toBitVec.toNat = (nI b).toBitVec.toNat := by rw [h]
    have e : ∀ x : Nat, x < 4294967296 → (nI x).toBitVec.toNat = x := fun x hx => Nat.mod_eq_of_lt hx
    rw [e a ha, e b hb] at h1
    exact h1
  · intro h; rw [h]
/-- selected is a mailbox or none -/
def zSl (m : zMm) : Prop := ∀ s, s < 3 → m 0 142 s < 4 ∨ m 0 142 s = 4294967295
def zisel (m : zMm) (b : Nat) : Bool := decide (m 0 142 0 = b) || decide (m 0 142 1 = b) || decide (m 0 142 2 = b)
/-- a place that a command with places P is about -/
def zmn (m : zMm) (P : zHd) (n : Nat) : Bool := (zmt m n).isSome && P n
def zmpc (m : zMm) (P : zHd) : Nat → Nat → Nat
  | 0, _ => 0
  | f + 1, n => (if zmn m P n then 1 else 0) + zmpc m P f (n + 1)
def zmp (m : zMm) (P : zHd) : Nat := zmpc m P (znp m) 1
theorem zmpc_le (m : zMm) (P : zHd) : ∀ f n, zmpc m P f n ≤ f
  | 0, _ => Nat.le_refl 0
  | f + 1, n => by
    have := zmpc_le m P f (n + 1)
    unfold zmpc
    split <;> omega
/-- the places of a set that was read -/
def zPl (l : List zRg) (E : zEnv) (u : Bool) : zHd := fun n => zrsin l (if u then E.2.2.1 n else n) (if u then E.2.1 else E.1)
def zrfm (m : zMm) (k : Nat) (a : zArg) : Bool :=
  (decide (k = 2 ∨ k = 3 ∨ 10 ≤ k) && decide (m 0 142 (m 520 132 0) = 4294967295)) ||
  (decide (k = 3 ∨ k = 10) && decide (m 0 143 (m 520 132 0) = 0)) ||
  (decide (10 ≤ k) && a.2.2.2.2.2.2.1) ||
  (decide (6 ≤ k ∧ k ≤ 9 ∨ k = 12) && decide (m 0 133 (m 526 132 0) = 0)) ||
  (decide (k = 5) && decide (m 0 133 (m 526 132 0) ≠ 0)) ||
  (decide (k = 6) && zisel m (m 526 132 0)) ||
  (decide (k = 9) && decide (m 0 136 (m 526 132 0) = 10)) ||
  (decide (k = 12) && decide (10 < m 0 136 (m 526 132 0) + zmp m a.2.2.2.2.2.2.2))
section
variable {L : Nat} {xs : Nat → Int32} {h : zH} {m : zMm} {c : Nat → Nat}
theorem s126 (hx : zFx h) (hl : zLC m c) {b : Nat} (hb : b < 4) (hs : zSl m) : zCl (zPr L xs) 126 [.ref 132, .int (nI b)] (zMH h m) = some (.inl (some (.int (nI (zisel m b).toNat))), zMH h m) := by
  have st : ∀ (i : Nat) (y : Bool), i < 3 → zEv (zPr L xs) 0 126 4 [.val (.ref 132), .val (.int (nI b)), .val (.int (nI y.toNat)), .val (.int (nI i))] [] (zMH h m) = zEv (zPr L xs) 0 126 4 [.val (.ref 132), .val (.int (nI b)), .val (.int (nI (y || decide (m 0 142 i = b)).toNat)), .val (.int (nI (i + 1)))] [] (zMH h m) := by
    intro i y hi
    have hs := hs i hi
    cases y with
    | true => exact p126_4_3 (x2 := 1) hx hl hi (by decide)
    | false =>
      have q : nI (m 0 142 i) = nI b ↔ m 0 142 i = b := zi_inj32 (by omega) (by omega)
      by_cases e : m 0 142 i = b
      · rw [decide_eq_true e]; exact p126_4_1 (x2 := 0) hx hl hi rfl (q.mpr e)
      · rw [decide_eq_false e]; exact p126_4_2 (x2 := 0) hx hl hi rfl (fun z => e (q.mp z))
  rw [en_126, p126_0_1 hx hl]
  have s0 := st 0 false (by decide)
  have s1 := st 1 (false || decide (m 0 142 0 = b)) (by decide)
  have s2 := st 2 (false || decide (m 0 142 0 = b) || decide (m 0 142 1 = b)) (by decide)
  refine s0.trans (s1.trans (s2.trans ?_))
  unfold zisel
  rw [Bool.false_or]
  exact p126_4_4 hx hl (Nat.le_refl 3) (by decide) (by cases (decide (m 0 142 0 = b) || decide (m 0 142 1 = b) || decide (m 0 142 2 = b)) <;> decide)
theorem s127 (hx : zFx h) (hl : zLC m c) (hv : zVB m) {u : Bool} {l : List zRg} {f n : Nat} (hz : zset c f (m 527 132 0) = some (l, m 528 132 0)) (hp : m 527 132 0 ≤ 64) (hu : m 525 132 0 = u.toNat) (hn : 1 ≤ n ∧ n ≤ 40) : zCl (zPr L xs) 127 [.ref 132, .int (nI n)] (zMH h m) = some (.inl (some (.int (nI (zmn m (zPl l (zenv m c) u) n).toNat))), zMH h m) := by
  rw [en_127]
  have e1 := s109 (L := L) (xs := xs) hx hl hv hn
  have e2 := s108 (L := L) (xs := xs) (q := u) hx hl hv hz hp hn
  rw [← hu] at e2
  have ep : (if u then zrsin l (zvn m n) (if znp m = 0 then 0 else zvn m (znp m)) else zrsin l n (znp m)) = zPl l (zenv m c) u n := by
    unfold zPl
    cases u <;> rfl
  rw [ep] at e2
  unfold zmn
  cases hm : zmt m n with
  | none =>
    rw [hm] at e1
    exact p127_0_3 hx hl e1 (by decide)
  | some j =>
    rw [hm] at e1
    have hj : j < 2147483648 := by
      obtain ⟨a1, a2, a3, a4, a5, a6⟩ := hv
      unfold zmt at hm
      have := zfi_some hm
      omega
    have nn : ¬ nI j < 0 := zi_nneg hj
    cases hq : zPl l (zenv m c) u n with
    | true => rw [hq] at e2; exact p127_0_1 hx hl e1 nn e2 rfl
    | false => rw [hq] at e2; exact p127_0_2 hx hl e1 nn e2 rfl
theorem s128 (hx : zFx h) (hl : zLC m c) (hv : zVB m) {u : Bool} {l : List zRg} {f : Nat} (hz : zset c f (m 527 132 0) = some (l, m 528 132 0)) (hp : m 527 132 0 ≤ 64) (hu : m 525 132 0 = u.toNat) : zCl (zPr L xs) 128 [.ref 132] (zMH h m) = some (.inl (some (.int (nI (zmp m (zPl l (zenv m c) u))))), zMH h m) := by
  have h40 : m 0 144 (m 520 132 0) ≤ 40 := hv.2.2.2.1
  have s3 := hl.1.1
  have loop : ∀ (f n v : Nat), f + n = m 0 144 (m 520 132 0) + 1 → 1 ≤ n → zEv (zPr L xs) 5 128 4 [.val (.ref 132), .val (.int (nI v)), .val (.int (nI n))] [] (zMH h m) = some (.inl (some (.int (nI (v + zmpc m (zPl l (zenv m c) u) f n)))), zMH h m) := by
    intro f
    induction f with
    | zero => intro n v hf hn; exact p128_4_3 hx hl (by omega) s3 (by omega) (by omega)
    | succ f ih =>
      intro n v hf hn
      have e := s127 (L := L) (xs := xs) (n := n) hx hl hv hz hp hu (by omega)
      unfold zmpc
      cases hq : zmn m (zPl l (zenv m c) u) n with
      | true =>
        rw [hq] at e
        rw [p128_4_1 hx hl (by omega) e rfl s3 (by omega) (by omega), ih (n + 1) (v + 1) (by omega) (by omega), if_pos rfl, Nat.add_assoc]
      | false =>
        rw [hq] at e
        rw [p128_4_2 hx hl (by omega) e rfl s3 (by omega) (by omega), ih (n + 1) v (by omega) (by omega), if_neg (by decide), Nat.zero_add]
  rw [en_128, p128_0_1 hx hl, loop (m 0 144 (m 520 132 0)) 1 0 (by omega) (by decide), Nat.zero_add]
  rfl
theorem s129 (hx : zFx h) (hl : zLC m c) {k : Nat} {u : Bool} {a : zArg} (hk : 1 ≤ k ∧ k ≤ 13) (hu : m 525 132 0 = u.toNat) (hs : zSl m) (hv : m 0 142 (m 520 132 0) ≠ 4294967295 → zVB m) (hp : m 0 144 (m 520 132 0) ≤ 40) (ht : ∀ b, b < 4 → m 0 133 b ≤ 1 ∧ m 0 136 b ≤ 10) (hw : m 0 143 (m 520 132 0) ≤ 1) (ha : zAR h m c (zenv m c) u k a) : zCl (zPr L xs) 129 [.ref 132, .int (nI k)] (zMH h m) = some (.inl (some (.int (nI (zrfm m k a).toNat))), zMH h m) := by
  have s3 := hl.1.1
  obtain ⟨a1, a2, a3, a4, a5, a6, a7⟩ := ha
  rw [en_129]
  have hsel := hs (m 520 132 0) s3
  have neg : ¬ (0 ≤ nI (m 0 142 (m 520 132 0))) ↔ m 0 142 (m 520 132 0) = 4294967295 := by
    rcases hsel with q | q
    · exact ⟨fun z => absurd ((zi_le (a := 0) (by decide) (by omega)).mpr (Nat.zero_le _)) z, fun z => by omega⟩
    · rw [q]; exact ⟨fun _ => rfl, fun _ => by decide⟩
  -- needs a mailbox
  have n1 : zEv (zPr L xs) 6 129 0 [.val (.ref 132), .val (.int (nI k)), .unset, .unset] [] (zMH h m) = zEv (zPr L xs) 6 129 21 [.val (.ref 132), .val (.int (nI k)), .unset, .unset] [.int (nI (decide (k = 2 ∨ k = 3 ∨ 10 ≤ k)).toNat)] (zMH h m) := by
    by_cases c1 : k = 3
    · rw [decide_eq_true (Or.inr (Or.inl c1)), p129_0_4 hx hl c1]; exact p129_16_1 hx hl
    · by_cases c2 : k = 2
      · rw [decide_eq_true (Or.inl c2), p129_0_3 hx hl c1 c2]; exact p129_16_1 hx hl
      · by_cases c3 : 10 ≤ k
        · rw [decide_eq_true (Or.inr (Or.inr c3)), p129_0_1 hx hl c1 c2 c3]; exact p129_16_1 hx hl
        · rw [decide_eq_false (by omega)]; exact p129_0_2 hx hl c1 c2 (by omega)
  rw [n1]
  unfold zrfm
  by_cases N : (k = 2 ∨ k = 3 ∨ 10 ≤ k) ∧ m 0 142 (m 520 132 0) = 4294967295
  · rw [decide_eq_true N.1, decide_eq_true N.2]
    simp only [Bool.true_and, Bool.true_or]
    exact p129_21_1 (z0 := true) hx hl rfl (neg.mpr N.2)
  · have N1 : (decide (k = 2 ∨ k = 3 ∨ 10 ≤ k) && decide (m 0 142 (m 520 132 0) = 4294967295)) = false := by
      rw [Bool.and_eq_false_iff, decide_eq_false_iff_not, decide_eq_false_iff_not]
      by_cases q : k = 2 ∨ k = 3 ∨ 10 ≤ k
      · exact Or.inr (fun z => N ⟨q, z⟩)
      · exact Or.inl q
    rw [N1, Bool.false_or]
    have n2 : ∃ w2, w2 ≠ Slot.second ∧ zEv (zPr L xs) 6 129 21 [.val (.ref 132), .val (.int (nI k)), .unset, .unset] [.int (nI (decide (k = 2 ∨ k = 3 ∨ 10 ≤ k)).toNat)] (zMH h m) = zEv (zPr L xs) 6 129 40 [.val (.ref 132), .val (.int (nI k)), w2, .unset] [] (zMH h m) := by
      by_cases q : k = 2 ∨ k = 3 ∨ 10 ≤ k
      · rw [decide_eq_true q]; exact ⟨_, zsecn, p129_21_2 (z0 := true) hx hl rfl (Decidable.byContradiction fun z => N ⟨q, neg.mp z⟩)⟩
      · rw [decide_eq_false q]; exact ⟨_, zsecn, p129_21_3 (z0 := false) hx hl rfl⟩
    obtain ⟨w2, hw2, n2⟩ := n2
    rw [n2]
    have vb : 10 ≤ k → zVB m := fun q => hv (fun z => N ⟨Or.inr (Or.inr q), z⟩)
    -- needs to write
    by_cases W : (k = 3 ∨ k = 10) ∧ m 0 143 (m 520 132 0) = 0
    · rw [decide_eq_true W.1, decide_eq_true W.2]
      simp only [Bool.true_and, Bool.true_or]
      rcases W.1 with q | q
      · rw [p129_40_3 hx hl q]; exact p129_51_1 hx hl W.2 s3
      · rw [p129_40_1 hx hl (by omega) q]; exact p129_51_1 hx hl W.2 s3
    · have W1 : (decide (k = 3 ∨ k = 10) && decide (m 0 143 (m 520 132 0) = 0)) = false := by
        rw [Bool.and_eq_false_iff, decide_eq_false_iff_not, decide_eq_false_iff_not]
        by_cases q : k = 3 ∨ k = 10
        · exact Or.inr (fun z => W ⟨q, z⟩)
        · exact Or.inl q
      rw [W1, Bool.false_or]
      have n3 : zEv (zPr L xs) 6 129 40 [.val (.ref 132), .val (.int (nI k)), w2, .unset] [] (zMH h m) = zEv (zPr L xs) 6 129 65 [.val (.ref 132), .val (.int (nI k)), w2, .unset] [] (zMH h m) := by
        by_cases q : k = 3
        · rw [p129_40_3 hx hl q]; exact p129_51_2 hx hl (fun z => W ⟨Or.inl q, z⟩) s3 (by omega)
        · by_cases q2 : k = 10
          · rw [p129_40_1 hx hl q q2]; exact p129_51_2 hx hl (fun z => W ⟨Or.inr q2, z⟩) s3 (by omega)
          · exact p129_40_2 hx hl q q2
      rw [n3]
      -- names a mailbox
      have n4 : zEv (zPr L xs) 6 129 65 [.val (.ref 132), .val (.int (nI k)), w2, .unset] [] (zMH h m) = zEv (zPr L xs) 6 129 88 [.val (.ref 132), .val (.int (nI k)), w2, .unset] [.int (nI (decide (6 ≤ k ∧ k ≤ 9 ∨ k = 12)).toNat)] (zMH h m) := by
        by_cases q1 : 6 ≤ k
        · by_cases q2 : k ≤ 9
          · rw [decide_eq_true (Or.inl ⟨q1, q2⟩), p129_65_2 hx hl q1 q2]; exact p129_83_1 hx hl
          · rw [p129_65_1 hx hl q1 (by omega)]
            by_cases q3 : k = 12
            · rw [decide_eq_true (Or.inr q3), p129_77_1 hx hl q3]; exact p129_83_1 hx hl
            · rw [decide_eq_false (by omega)]; exact p129_77_2 hx hl q3
        · rw [p129_65_3 hx hl (by omega), decide_eq_false (by omega)]; exact p129_77_2 hx hl (by omega)
      rw [n4]
      have dz : ∀ (P : Prop) [Decidable P] (b : Bool), ¬ P → (decide P && b) = false := fun P _ b q => by rw [decide_eq_false q]; rfl
      have dt : ∀ (P : Prop) [Decidable P] (b : Bool), P → (decide P && b) = b := fun P _ b q => by rw [decide_eq_true q]; rfl
      have bx : (5 ≤ k ∧ k ≤ 9 ∨ k = 12) → m 526 132 0 < 4 := fun q => by have := a1 q; omega
      by_cases N4 : (6 ≤ k ∧ k ≤ 9 ∨ k = 12) ∧ m 0 133 (m 526 132 0) = 0
      · rw [decide_eq_true N4.1, p129_88_2 (z0 := true) hx hl rfl N4.2 zsecu (bx (by omega)), p129_139_1 hx hl]
        rw [decide_eq_true N4.2]
        simp only [Bool.true_and, Bool.or_true, Bool.true_or]
        rfl
      · have N5 : (decide (6 ≤ k ∧ k ≤ 9 ∨ k = 12) && decide (m 0 133 (m 526 132 0) = 0)) = false := by
          rw [Bool.and_eq_false_iff, decide_eq_false_iff_not, decide_eq_false_iff_not]
          by_cases q : 6 ≤ k ∧ k ≤ 9 ∨ k = 12
          · exact Or.inr (fun z => N4 ⟨q, z⟩)
          · exact Or.inl q
        have n5 : ∃ w3, w3 ≠ Slot.second ∧ zEv (zPr L xs) 6 129 88 [.val (.ref 132), .val (.int (nI k)), w2, .unset] [.int (nI (decide (6 ≤ k ∧ k ≤ 9 ∨ k = 12)).toNat)] (zMH h m) = zEv (zPr L xs) 6 129 105 [.val (.ref 132), .val (.int (nI k)), w2, w3] [] (zMH h m) := by
          by_cases q : 6 ≤ k ∧ k ≤ 9 ∨ k = 12
          · have b4 := bx (by omega)
            have := ht _ b4
            rw [decide_eq_true q]; exact ⟨_, zsecn, p129_88_1 (z0 := true) hx hl rfl (fun z => N4 ⟨q, z⟩) zsecu b4 (by omega)⟩
          · rw [decide_eq_false q]; exact ⟨_, zsecn, p129_88_3 (z0 := false) hx hl rfl zsecu⟩
        obtain ⟨w3, hw3, n5⟩ := n5
        rw [n5, N5]
        clear n1 n2 n3 n4 n5
        by_cases k5 : k = 5
        · have b4 := bx (by omega)
          have tb := ht _ b4
          rw [dz (10 ≤ k) _ (by omega), dt (k = 5) _ k5, dz (k = 6) _ (by omega), dz (k = 9) _ (by omega), dz (k = 12) _ (by omega)]
          simp only [Bool.false_or, Bool.or_false]
          by_cases z : m 0 133 (m 526 132 0) = 0
          · rw [decide_eq_false (fun q => q z), p129_105_1 hx hl k5 z b4, p129_122_3 hx hl (by omega), p129_141_7 hx hl (by omega) (by omega) (by omega), p129_208_3 hx hl (by omega), p129_237_1 hx hl]
            exact p129_238_1 (z0 := false) hx hl
          · rw [decide_eq_true z, p129_105_2 hx hl k5 z b4 (by omega), p129_139_1 hx hl]; rfl
        · rw [p129_105_3 hx hl k5, dz (k = 5) _ k5]
          by_cases k6 : k = 6
          · have b4 := bx (by omega)
            have e := s126 (L := L) (xs := xs) hx hl b4 hs
            rw [dz (10 ≤ k) _ (by omega), dt (k = 6) _ k6, dz (k = 9) _ (by omega), dz (k = 12) _ (by omega)]
            simp only [Bool.false_or, Bool.or_false]
            cases z : zisel m (m 526 132 0) with
            | true => rw [z] at e; rw [p129_122_1 hx hl k6 e rfl, p129_139_1 hx hl]; rfl
            | false =>
              rw [z] at e
              rw [p129_122_2 hx hl k6 e rfl, p129_141_7 hx hl (by omega) (by omega) (by omega), p129_208_3 hx hl (by omega), p129_237_1 hx hl]
              exact p129_238_1 (z0 := false) hx hl
          · rw [p129_122_3 hx hl k6, dz (k = 6) _ k6]
            by_cases k9 : k = 9
            · have b4 := bx (by omega)
              have tb := ht _ b4
              rw [dz (10 ≤ k) _ (by omega), dt (k = 9) _ k9, dz (k = 12) _ (by omega)]
              simp only [Bool.false_or, Bool.or_false]
              by_cases z : m 0 136 (m 526 132 0) = 10
              · rw [decide_eq_true z, p129_141_1 hx hl k9 z b4]; exact p129_166_1 (z0 := true) hx hl
              · rw [decide_eq_false z, p129_141_2 hx hl k9 z b4 (by omega)]; exact p129_166_1 (z0 := false) hx hl
            · rw [dz (k = 9) _ k9]
              by_cases k13 : k = 13
              · obtain ⟨-, q, -⟩ := a7 k13
                rw [dt (10 ≤ k) _ (by omega), dz (k = 12) _ (by omega)]
                simp only [Bool.false_or, Bool.or_false]
                rw [← q]
                exact p129_141_3 hx hl k9 k13 (by omega) (by rw [q]; cases a.2.2.2.2.2.2.1 <;> decide)
              · by_cases k10 : 10 ≤ k
                · obtain ⟨l, z1, z2, z3, z4⟩ := a6 k10 (by omega)
                  have vb := vb k10
                  have hE : (zenv m c).1 = m 0 144 (m 520 132 0) := rfl
                  have e := s106 (L := L) (xs := xs) hx hl z1 z2 rfl hp
                  rw [dt (10 ≤ k) _ k10]
                  have n6 : a.2.2.2.2.2.2.1 = false → zEv (zPr L xs) 6 129 141 [.val (.ref 132), .val (.int (nI k)), w2, w3] [] (zMH h m) = zEv (zPr L xs) 6 129 208 [.val (.ref 132), .val (.int (nI k)), w2, w3] [] (zMH h m) := by
                    intro z
                    cases hu2 : u with
                    | true => rw [hu2] at hu; exact p129_141_6 hx hl k9 k13 k10 (by rw [hu]; decide) (by omega) (by rw [hu]; decide)
                    | false =>
                      rw [hu2] at hu z3
                      rw [z3, Bool.not_false, Bool.true_and, hE] at z
                      rw [z] at e
                      exact p129_141_5 hx hl k9 k13 k10 hu e rfl
                  cases hw3' : a.2.2.2.2.2.2.1 with
                  | true =>
                    simp only [Bool.true_or]
                    have hu0 : u = false := by
                      cases hu2 : u with
                      | true => rw [hw3', hu2] at z3; cases z3
                      | false => rfl
                    rw [hu0] at hu z3
                    rw [z3, Bool.not_false, Bool.true_and, hE] at hw3'
                    rw [hw3'] at e
                    exact p129_141_4 hx hl k9 k13 k10 hu e rfl
                  | false =>
                    simp only [Bool.false_or]
                    rw [n6 hw3']
                    by_cases k12 : k = 12
                    · have b4 := bx (by omega)
                      have tb := ht _ b4
                      have e2 := s128 (L := L) (xs := xs) hx hl vb z1 z2 hu
                      have hle : zmp m (zPl l (zenv m c) u) ≤ m 0 144 (m 520 132 0) := zmpc_le _ _ _ _
                      have ePl : a.2.2.2.2.2.2.2 = zPl l (zenv m c) u := z4
                      rw [dt (k = 12) _ k12, ePl]
                      by_cases z : 10 < m 0 136 (m 526 132 0) + zmp m (zPl l (zenv m c) u)
                      · rw [decide_eq_true z, p129_208_1 hx hl k12 e2 z b4 (by omega)]
                        exact p129_238_1 (z0 := true) hx hl
                      · rw [decide_eq_false z, p129_208_2 hx hl k12 e2 (Nat.le_of_not_lt z) b4 (by omega), p129_237_1 hx hl]
                        exact p129_238_1 (z0 := false) hx hl
                    · rw [dz (k = 12) _ k12, p129_208_3 hx hl k12, p129_237_1 hx hl]
                      exact p129_238_1 (z0 := false) hx hl
                · rw [dz (10 ≤ k) _ k10, dz (k = 12) _ (by omega), p129_141_7 hx hl k9 k13 (by omega), p129_208_3 hx hl (by omega), p129_237_1 hx hl]
                  exact p129_238_1 (z0 := false) hx hl
end
