/-! ===== what the reference says (printed by wip/whole/gen/say.py) ===== -/
def zRL (m : zMm) : Nat := m 0 150 (m 520 132 0)
def zrt (m : zMm) : List Nat := (List.range (zRL m)).map fun i => m 0 149 (2048 * (m 520 132 0) + i)
/-- the text t is said besides -/
def zSay (m m' : zMm) (t : List Nat) : Prop := zfr [(0, 149), (0, 150)] m m' ∧ zrt m' = zrt m ++ t ∧ zRL m' = zRL m + t.length ∧ (∀ j, j ≠ m 520 132 0 → m' 0 150 j = m 0 150 j) ∧ ∀ j, j / 2048 ≠ m 520 132 0 → m' 0 149 j = m 0 149 j
theorem zSay_ses {m m' : zMm} {t : List Nat} (h : zSay m m' t) : m' 520 132 0 = m 520 132 0 := h.1 _ _ _ (by decide)
theorem zSay_rf (m : zMm) : zSay m m [] := ⟨zfr_rf _ _, (List.append_nil _).symm, rfl, fun _ _ => rfl, fun _ _ => rfl⟩
theorem zSay_tr {m m1 m2 : zMm} {t u : List Nat} (a : zSay m m1 t) (b : zSay m1 m2 u) : zSay m m2 (t ++ u) := by
  have es := zSay_ses a
  obtain ⟨a1, a2, a3, a4, a5⟩ := a
  obtain ⟨b1, b2, b3, b4, b5⟩ := b
  rw [es] at b4 b5
  exact ⟨zfr_tr a1 b1 (fun _ q => q) (fun _ q => q), by rw [b2, a2, List.append_assoc], by rw [b3, a3, List.length_append, Nat.add_assoc], fun j hj => (b4 j hj).trans (a4 j hj), fun j hj => (b5 j hj).trans (a5 j hj)⟩
theorem zSay_lc {m m' : zMm} {c : Nat → Nat} {t : List Nat} (hl : zLC m c) (a : zSay m m' t) : zLC m' c := zLC_fr hl a.1
theorem zSay_len {m m' : zMm} {t : List Nat} (a : zSay m m' t) : zRL m' = zRL m + t.length := a.2.2.1
/-- the decimal text of a number -/
def zds (v : Nat) : List Nat := (if 999 < v then [48 + v / 1000] else []) ++ (if 99 < v then [48 + v / 100 % 10] else []) ++ (if 9 < v then [48 + v / 10 % 10] else []) ++ [48 + v % 10]
def zfl (p : Nat) : List Nat := [40] ++ (if p &&& 1 ≠ 0 then [83] else []) ++ (if p &&& 2 ≠ 0 then [65] else []) ++ (if p &&& 4 ≠ 0 then [70] else []) ++ (if p &&& 8 ≠ 0 then [68] else []) ++ [41]
theorem zds_len (v : Nat) : (zds v).length ≤ 4 := by
  unfold zds
  repeat' split
  all_goals exact Nat.le_of_ble_eq_true rfl
theorem zfl_len (v : Nat) : (zfl v).length ≤ 6 := by
  unfold zfl
  repeat' split
  all_goals exact Nat.le_of_ble_eq_true rfl
theorem zi_le0 : ∀ v, v < 32 → v ≠ 0 → ¬ (nI v ≤ 0) := by decide
theorem zi_add64 : ∀ v, v < 32 → nI 64 + nI v = nI (64 + v) := by decide
section
variable {L : Nat} {xs : Nat → Int32} {h : zH} {m : zMm} {c : Nat → Nat}
theorem s119 (hx : zFx h) (hl : zLC m c) (p : Nat) (hr : zRL m < 2048) : ∃ m', zCl (zPr L xs) 119 [.ref 132, .int (nI p)] (zMH h m) = some (.inl none, zMH h m') ∧ zSay m m' [p] := by
  have s3 := hl.1.1
  have hr' : m 0 150 (m 520 132 0) < 2048 := hr
  rw [en_119]
  refine ⟨_, p119_0_1 hx hl s3 (by omega), zfr_u (zfr_u (zfr_rf _ _) (by decide)) (by decide), ?_, ?_, fun j hj => ?_, fun j hj => ?_⟩
  · have e1 : zRL (u3 (u3 m 0 149 (2048 * (m 520 132 0) + (m 0 150 (m 520 132 0))) p) 0 150 (m 520 132 0) (m 0 150 (m 520 132 0) + 1)) = zRL m + 1 := u3_eq _ _ _ _ _
    unfold zrt
    rw [e1, List.range_succ, List.map_append]
    congr 1
    · refine List.map_congr_left fun i hi => ?_
      have hi := List.mem_range.mp hi
      show u3 (u3 m 0 149 (2048 * (m 520 132 0) + (m 0 150 (m 520 132 0))) p) 0 150 (m 520 132 0) (m 0 150 (m 520 132 0) + 1) 0 149 (2048 * (m 520 132 0) + i) = _
      have hi : i < m 0 150 (m 520 132 0) := hi
      rw [u3_a (by decide), u3_i (by omega)]
    · show [u3 (u3 m 0 149 (2048 * (m 520 132 0) + (m 0 150 (m 520 132 0))) p) 0 150 (m 520 132 0) (m 0 150 (m 520 132 0) + 1) 0 149 (2048 * (m 520 132 0) + (m 0 150 (m 520 132 0)))] = _
      rw [u3_a (by decide), u3_eq]
  · exact u3_eq _ _ _ _ _
  · show u3 (u3 m 0 149 (2048 * (m 520 132 0) + (m 0 150 (m 520 132 0))) p) 0 150 (m 520 132 0) (m 0 150 (m 520 132 0) + 1) 0 150 j = _
    rw [u3_i (by omega), u3_a (by decide)]
  · show u3 (u3 m 0 149 (2048 * (m 520 132 0) + (m 0 150 (m 520 132 0))) p) 0 150 (m 520 132 0) (m 0 150 (m 520 132 0) + 1) 0 149 j = _
    rw [u3_a (by decide), u3_i (by omega)]

/-- a number -/
theorem s120 (hx : zFx h) (hl : zLC m c) (v : Nat) (hv : v < 10000) (hr : zRL m < 2000) : ∃ m', zCl (zPr L xs) 120 [.ref 132, .int (nI v)] (zMH h m) = some (.inl none, zMH h m') ∧ zSay m m' (zds v) := by
  rw [en_120]
  unfold zds
  by_cases d1 : 999 < v
  · rw [if_pos d1]
    by_cases d2 : 99 < v
    · rw [if_pos d2]
      by_cases d3 : 9 < v
      · rw [if_pos d3]
        obtain ⟨m1, e1, s1⟩ := s119 (L := L) (xs := xs) (m := m) hx hl (48 + v / 1000) (by omega)
        have hl1 := zSay_lc hl s1
        have l1 : zRL m1 = zRL m + 1 := zSay_len s1
        obtain ⟨m2, e2, s2⟩ := s119 (L := L) (xs := xs) (m := m1) hx hl1 (48 + v / 100 % 10) (by omega)
        have hl2 := zSay_lc hl1 s2
        have l2 : zRL m2 = zRL m1 + 1 := zSay_len s2
        obtain ⟨m3, e3, s3⟩ := s119 (L := L) (xs := xs) (m := m2) hx hl2 (48 + v / 10 % 10) (by omega)
        have hl3 := zSay_lc hl2 s3
        have l3 : zRL m3 = zRL m2 + 1 := zSay_len s3
        obtain ⟨m4, e4, s4⟩ := s119 (L := L) (xs := xs) (m := m3) hx hl3 (48 + v % 10) (by omega)
        have hl4 := zSay_lc hl3 s4
        have l4 : zRL m4 = zRL m3 + 1 := zSay_len s4
        have S := zSay_tr (zSay_tr (zSay_tr (s1) s2) s3) s4
        exact ⟨m4, p120_0_1 hx hl d1 e1 d2 e2 d3 e3 e4, S⟩
      · rw [if_neg d3]
        obtain ⟨m1, e1, s1⟩ := s119 (L := L) (xs := xs) (m := m) hx hl (48 + v / 1000) (by omega)
        have hl1 := zSay_lc hl s1
        have l1 : zRL m1 = zRL m + 1 := zSay_len s1
        obtain ⟨m2, e2, s2⟩ := s119 (L := L) (xs := xs) (m := m1) hx hl1 (48 + v / 100 % 10) (by omega)
        have hl2 := zSay_lc hl1 s2
        have l2 : zRL m2 = zRL m1 + 1 := zSay_len s2
        obtain ⟨m3, e3, s3⟩ := s119 (L := L) (xs := xs) (m := m2) hx hl2 (48 + v % 10) (by omega)
        have hl3 := zSay_lc hl2 s3
        have l3 : zRL m3 = zRL m2 + 1 := zSay_len s3
        have S := zSay_tr (zSay_tr (s1) s2) s3
        exact ⟨m3, p120_0_2 hx hl d1 e1 d2 e2 (Nat.le_of_not_lt d3) e3, S⟩
    · rw [if_neg d2]
      by_cases d3 : 9 < v
      · rw [if_pos d3]
        obtain ⟨m1, e1, s1⟩ := s119 (L := L) (xs := xs) (m := m) hx hl (48 + v / 1000) (by omega)
        have hl1 := zSay_lc hl s1
        have l1 : zRL m1 = zRL m + 1 := zSay_len s1
        obtain ⟨m2, e2, s2⟩ := s119 (L := L) (xs := xs) (m := m1) hx hl1 (48 + v / 10 % 10) (by omega)
        have hl2 := zSay_lc hl1 s2
        have l2 : zRL m2 = zRL m1 + 1 := zSay_len s2
        obtain ⟨m3, e3, s3⟩ := s119 (L := L) (xs := xs) (m := m2) hx hl2 (48 + v % 10) (by omega)
        have hl3 := zSay_lc hl2 s3
        have l3 : zRL m3 = zRL m2 + 1 := zSay_len s3
        have S := zSay_tr (zSay_tr (s1) s2) s3
        exact ⟨m3, p120_0_3 hx hl d1 e1 (Nat.le_of_not_lt d2) d3 e2 e3, S⟩
      · rw [if_neg d3]
        obtain ⟨m1, e1, s1⟩ := s119 (L := L) (xs := xs) (m := m) hx hl (48 + v / 1000) (by omega)
        have hl1 := zSay_lc hl s1
        have l1 : zRL m1 = zRL m + 1 := zSay_len s1
        obtain ⟨m2, e2, s2⟩ := s119 (L := L) (xs := xs) (m := m1) hx hl1 (48 + v % 10) (by omega)
        have hl2 := zSay_lc hl1 s2
        have l2 : zRL m2 = zRL m1 + 1 := zSay_len s2
        have S := zSay_tr (s1) s2
        exact ⟨m2, p120_0_4 hx hl d1 e1 (Nat.le_of_not_lt d2) (Nat.le_of_not_lt d3) e2, S⟩
  · rw [if_neg d1]
    by_cases d2 : 99 < v
    · rw [if_pos d2]
      by_cases d3 : 9 < v
      · rw [if_pos d3]
        obtain ⟨m1, e1, s1⟩ := s119 (L := L) (xs := xs) (m := m) hx hl (48 + v / 100 % 10) (by omega)
        have hl1 := zSay_lc hl s1
        have l1 : zRL m1 = zRL m + 1 := zSay_len s1
        obtain ⟨m2, e2, s2⟩ := s119 (L := L) (xs := xs) (m := m1) hx hl1 (48 + v / 10 % 10) (by omega)
        have hl2 := zSay_lc hl1 s2
        have l2 : zRL m2 = zRL m1 + 1 := zSay_len s2
        obtain ⟨m3, e3, s3⟩ := s119 (L := L) (xs := xs) (m := m2) hx hl2 (48 + v % 10) (by omega)
        have hl3 := zSay_lc hl2 s3
        have l3 : zRL m3 = zRL m2 + 1 := zSay_len s3
        have S := zSay_tr (zSay_tr (s1) s2) s3
        exact ⟨m3, p120_0_5 hx hl (Nat.le_of_not_lt d1) d2 e1 d3 e2 e3, S⟩
      · rw [if_neg d3]
        obtain ⟨m1, e1, s1⟩ := s119 (L := L) (xs := xs) (m := m) hx hl (48 + v / 100 % 10) (by omega)
        have hl1 := zSay_lc hl s1
        have l1 : zRL m1 = zRL m + 1 := zSay_len s1
        obtain ⟨m2, e2, s2⟩ := s119 (L := L) (xs := xs) (m := m1) hx hl1 (48 + v % 10) (by omega)
        have hl2 := zSay_lc hl1 s2
        have l2 : zRL m2 = zRL m1 + 1 := zSay_len s2
        have S := zSay_tr (s1) s2
        exact ⟨m2, p120_0_6 hx hl (Nat.le_of_not_lt d1) d2 e1 (Nat.le_of_not_lt d3) e2, S⟩
    · rw [if_neg d2]
      by_cases d3 : 9 < v
      · rw [if_pos d3]
        obtain ⟨m1, e1, s1⟩ := s119 (L := L) (xs := xs) (m := m) hx hl (48 + v / 10 % 10) (by omega)
        have hl1 := zSay_lc hl s1
        have l1 : zRL m1 = zRL m + 1 := zSay_len s1
        obtain ⟨m2, e2, s2⟩ := s119 (L := L) (xs := xs) (m := m1) hx hl1 (48 + v % 10) (by omega)
        have hl2 := zSay_lc hl1 s2
        have l2 : zRL m2 = zRL m1 + 1 := zSay_len s2
        have S := zSay_tr (s1) s2
        exact ⟨m2, p120_0_7 hx hl (Nat.le_of_not_lt d1) (Nat.le_of_not_lt d2) d3 e1 e2, S⟩
      · rw [if_neg d3]
        obtain ⟨m1, e1, s1⟩ := s119 (L := L) (xs := xs) (m := m) hx hl (48 + v % 10) (by omega)
        have hl1 := zSay_lc hl s1
        have l1 : zRL m1 = zRL m + 1 := zSay_len s1
        have S := s1
        exact ⟨m1, p120_0_8 hx hl (Nat.le_of_not_lt d1) (Nat.le_of_not_lt d2) (Nat.le_of_not_lt d3) e1, S⟩
/-- flags -/
theorem s122 (hx : zFx h) (hl : zLC m c) (p : Nat) (hr : zRL m < 2000) : ∃ m', zCl (zPr L xs) 122 [.ref 132, .int (nI p)] (zMH h m) = some (.inl none, zMH h m') ∧ zSay m m' (zfl p) := by
  rw [en_122]
  have q1 := Nat.and_le_right (n := p) (m := 1)
  have q2 := Nat.and_le_right (n := p) (m := 2)
  have q3 := Nat.and_le_right (n := p) (m := 4)
  have q4 := Nat.and_le_right (n := p) (m := 8)
  unfold zfl
  by_cases d1 : p &&& 1 = 0
  · rw [if_neg (fun z => z d1)]
    by_cases d2 : p &&& 2 = 0
    · rw [if_neg (fun z => z d2)]
      by_cases d3 : p &&& 4 = 0
      · rw [if_neg (fun z => z d3)]
        by_cases d4 : p &&& 8 = 0
        · rw [if_neg (fun z => z d4)]
          obtain ⟨m1, e1, s1⟩ := s119 (L := L) (xs := xs) (m := m) hx hl (40) (by omega)
          have hl1 := zSay_lc hl s1
          have l1 : zRL m1 = zRL m + 1 := zSay_len s1
          obtain ⟨m2, e2, s2⟩ := s119 (L := L) (xs := xs) (m := m1) hx hl1 (41) (by omega)
          have hl2 := zSay_lc hl1 s2
          have l2 : zRL m2 = zRL m1 + 1 := zSay_len s2
          have S := zSay_tr (s1) s2
          exact ⟨m2, p122_0_16 hx hl e1 d1 d2 d3 d4 e2, S⟩
        · rw [if_pos d4]
          obtain ⟨m1, e1, s1⟩ := s119 (L := L) (xs := xs) (m := m) hx hl (40) (by omega)
          have hl1 := zSay_lc hl s1
          have l1 : zRL m1 = zRL m + 1 := zSay_len s1
          obtain ⟨m2, e2, s2⟩ := s119 (L := L) (xs := xs) (m := m1) hx hl1 (68) (by omega)
          have hl2 := zSay_lc hl1 s2
          have l2 : zRL m2 = zRL m1 + 1 := zSay_len s2
          obtain ⟨m3, e3, s3⟩ := s119 (L := L) (xs := xs) (m := m2) hx hl2 (41) (by omega)
          have hl3 := zSay_lc hl2 s3
          have l3 : zRL m3 = zRL m2 + 1 := zSay_len s3
          have S := zSay_tr (zSay_tr (s1) s2) s3
          exact ⟨m3, p122_0_15 hx hl e1 d1 d2 d3 d4 e2 e3, S⟩
      · rw [if_pos d3]
        by_cases d4 : p &&& 8 = 0
        · rw [if_neg (fun z => z d4)]
          obtain ⟨m1, e1, s1⟩ := s119 (L := L) (xs := xs) (m := m) hx hl (40) (by omega)
          have hl1 := zSay_lc hl s1
          have l1 : zRL m1 = zRL m + 1 := zSay_len s1
          obtain ⟨m2, e2, s2⟩ := s119 (L := L) (xs := xs) (m := m1) hx hl1 (70) (by omega)
          have hl2 := zSay_lc hl1 s2
          have l2 : zRL m2 = zRL m1 + 1 := zSay_len s2
          obtain ⟨m3, e3, s3⟩ := s119 (L := L) (xs := xs) (m := m2) hx hl2 (41) (by omega)
          have hl3 := zSay_lc hl2 s3
          have l3 : zRL m3 = zRL m2 + 1 := zSay_len s3
          have S := zSay_tr (zSay_tr (s1) s2) s3
          exact ⟨m3, p122_0_14 hx hl e1 d1 d2 d3 e2 d4 e3, S⟩
        · rw [if_pos d4]
          obtain ⟨m1, e1, s1⟩ := s119 (L := L) (xs := xs) (m := m) hx hl (40) (by omega)
          have hl1 := zSay_lc hl s1
          have l1 : zRL m1 = zRL m + 1 := zSay_len s1
          obtain ⟨m2, e2, s2⟩ := s119 (L := L) (xs := xs) (m := m1) hx hl1 (70) (by omega)
          have hl2 := zSay_lc hl1 s2
          have l2 : zRL m2 = zRL m1 + 1 := zSay_len s2
          obtain ⟨m3, e3, s3⟩ := s119 (L := L) (xs := xs) (m := m2) hx hl2 (68) (by omega)
          have hl3 := zSay_lc hl2 s3
          have l3 : zRL m3 = zRL m2 + 1 := zSay_len s3
          obtain ⟨m4, e4, s4⟩ := s119 (L := L) (xs := xs) (m := m3) hx hl3 (41) (by omega)
          have hl4 := zSay_lc hl3 s4
          have l4 : zRL m4 = zRL m3 + 1 := zSay_len s4
          have S := zSay_tr (zSay_tr (zSay_tr (s1) s2) s3) s4
          exact ⟨m4, p122_0_13 hx hl e1 d1 d2 d3 e2 d4 e3 e4, S⟩
    · rw [if_pos d2]
      by_cases d3 : p &&& 4 = 0
      · rw [if_neg (fun z => z d3)]
        by_cases d4 : p &&& 8 = 0
        · rw [if_neg (fun z => z d4)]
          obtain ⟨m1, e1, s1⟩ := s119 (L := L) (xs := xs) (m := m) hx hl (40) (by omega)
          have hl1 := zSay_lc hl s1
          have l1 : zRL m1 = zRL m + 1 := zSay_len s1
          obtain ⟨m2, e2, s2⟩ := s119 (L := L) (xs := xs) (m := m1) hx hl1 (65) (by omega)
          have hl2 := zSay_lc hl1 s2
          have l2 : zRL m2 = zRL m1 + 1 := zSay_len s2
          obtain ⟨m3, e3, s3⟩ := s119 (L := L) (xs := xs) (m := m2) hx hl2 (41) (by omega)
          have hl3 := zSay_lc hl2 s3
          have l3 : zRL m3 = zRL m2 + 1 := zSay_len s3
          have S := zSay_tr (zSay_tr (s1) s2) s3
          exact ⟨m3, p122_0_12 hx hl e1 d1 d2 e2 d3 d4 e3, S⟩
        · rw [if_pos d4]
          obtain ⟨m1, e1, s1⟩ := s119 (L := L) (xs := xs) (m := m) hx hl (40) (by omega)
          have hl1 := zSay_lc hl s1
          have l1 : zRL m1 = zRL m + 1 := zSay_len s1
          obtain ⟨m2, e2, s2⟩ := s119 (L := L) (xs := xs) (m := m1) hx hl1 (65) (by omega)
          have hl2 := zSay_lc hl1 s2
          have l2 : zRL m2 = zRL m1 + 1 := zSay_len s2
          obtain ⟨m3, e3, s3⟩ := s119 (L := L) (xs := xs) (m := m2) hx hl2 (68) (by omega)
          have hl3 := zSay_lc hl2 s3
          have l3 : zRL m3 = zRL m2 + 1 := zSay_len s3
          obtain ⟨m4, e4, s4⟩ := s119 (L := L) (xs := xs) (m := m3) hx hl3 (41) (by omega)
          have hl4 := zSay_lc hl3 s4
          have l4 : zRL m4 = zRL m3 + 1 := zSay_len s4
          have S := zSay_tr (zSay_tr (zSay_tr (s1) s2) s3) s4
          exact ⟨m4, p122_0_11 hx hl e1 d1 d2 e2 d3 d4 e3 e4, S⟩
      · rw [if_pos d3]
        by_cases d4 : p &&& 8 = 0
        · rw [if_neg (fun z => z d4)]
          obtain ⟨m1, e1, s1⟩ := s119 (L := L) (xs := xs) (m := m) hx hl (40) (by omega)
          have hl1 := zSay_lc hl s1
          have l1 : zRL m1 = zRL m + 1 := zSay_len s1
          obtain ⟨m2, e2, s2⟩ := s119 (L := L) (xs := xs) (m := m1) hx hl1 (65) (by omega)
          have hl2 := zSay_lc hl1 s2
          have l2 : zRL m2 = zRL m1 + 1 := zSay_len s2
          obtain ⟨m3, e3, s3⟩ := s119 (L := L) (xs := xs) (m := m2) hx hl2 (70) (by omega)
          have hl3 := zSay_lc hl2 s3
          have l3 : zRL m3 = zRL m2 + 1 := zSay_len s3
          obtain ⟨m4, e4, s4⟩ := s119 (L := L) (xs := xs) (m := m3) hx hl3 (41) (by omega)
          have hl4 := zSay_lc hl3 s4
          have l4 : zRL m4 = zRL m3 + 1 := zSay_len s4
          have S := zSay_tr (zSay_tr (zSay_tr (s1) s2) s3) s4
          exact ⟨m4, p122_0_10 hx hl e1 d1 d2 e2 d3 e3 d4 e4, S⟩
        · rw [if_pos d4]
          obtain ⟨m1, e1, s1⟩ := s119 (L := L) (xs := xs) (m := m) hx hl (40) (by omega)
          have hl1 := zSay_lc hl s1
          have l1 : zRL m1 = zRL m + 1 := zSay_len s1
          obtain ⟨m2, e2, s2⟩ := s119 (L := L) (xs := xs) (m := m1) hx hl1 (65) (by omega)
          have hl2 := zSay_lc hl1 s2
          have l2 : zRL m2 = zRL m1 + 1 := zSay_len s2
          obtain ⟨m3, e3, s3⟩ := s119 (L := L) (xs := xs) (m := m2) hx hl2 (70) (by omega)
          have hl3 := zSay_lc hl2 s3
          have l3 : zRL m3 = zRL m2 + 1 := zSay_len s3
          obtain ⟨m4, e4, s4⟩ := s119 (L := L) (xs := xs) (m := m3) hx hl3 (68) (by omega)
          have hl4 := zSay_lc hl3 s4
          have l4 : zRL m4 = zRL m3 + 1 := zSay_len s4
          obtain ⟨m5, e5, s5⟩ := s119 (L := L) (xs := xs) (m := m4) hx hl4 (41) (by omega)
          have hl5 := zSay_lc hl4 s5
          have l5 : zRL m5 = zRL m4 + 1 := zSay_len s5
          have S := zSay_tr (zSay_tr (zSay_tr (zSay_tr (s1) s2) s3) s4) s5
          exact ⟨m5, p122_0_9 hx hl e1 d1 d2 e2 d3 e3 d4 e4 e5, S⟩
  · rw [if_pos d1]
    by_cases d2 : p &&& 2 = 0
    · rw [if_neg (fun z => z d2)]
      by_cases d3 : p &&& 4 = 0
      · rw [if_neg (fun z => z d3)]
        by_cases d4 : p &&& 8 = 0
        · rw [if_neg (fun z => z d4)]
          obtain ⟨m1, e1, s1⟩ := s119 (L := L) (xs := xs) (m := m) hx hl (40) (by omega)
          have hl1 := zSay_lc hl s1
          have l1 : zRL m1 = zRL m + 1 := zSay_len s1
          obtain ⟨m2, e2, s2⟩ := s119 (L := L) (xs := xs) (m := m1) hx hl1 (83) (by omega)
          have hl2 := zSay_lc hl1 s2
          have l2 : zRL m2 = zRL m1 + 1 := zSay_len s2
          obtain ⟨m3, e3, s3⟩ := s119 (L := L) (xs := xs) (m := m2) hx hl2 (41) (by omega)
          have hl3 := zSay_lc hl2 s3
          have l3 : zRL m3 = zRL m2 + 1 := zSay_len s3
          have S := zSay_tr (zSay_tr (s1) s2) s3
          exact ⟨m3, p122_0_8 hx hl e1 d1 e2 d2 d3 d4 e3, S⟩
        · rw [if_pos d4]
          obtain ⟨m1, e1, s1⟩ := s119 (L := L) (xs := xs) (m := m) hx hl (40) (by omega)
          have hl1 := zSay_lc hl s1
          have l1 : zRL m1 = zRL m + 1 := zSay_len s1
          obtain ⟨m2, e2, s2⟩ := s119 (L := L) (xs := xs) (m := m1) hx hl1 (83) (by omega)
          have hl2 := zSay_lc hl1 s2
          have l2 : zRL m2 = zRL m1 + 1 := zSay_len s2
          obtain ⟨m3, e3, s3⟩ := s119 (L := L) (xs := xs) (m := m2) hx hl2 (68) (by omega)
          have hl3 := zSay_lc hl2 s3
          have l3 : zRL m3 = zRL m2 + 1 := zSay_len s3
          obtain ⟨m4, e4, s4⟩ := s119 (L := L) (xs := xs) (m := m3) hx hl3 (41) (by omega)
          have hl4 := zSay_lc hl3 s4
          have l4 : zRL m4 = zRL m3 + 1 := zSay_len s4
          have S := zSay_tr (zSay_tr (zSay_tr (s1) s2) s3) s4
          exact ⟨m4, p122_0_7 hx hl e1 d1 e2 d2 d3 d4 e3 e4, S⟩
      · rw [if_pos d3]
        by_cases d4 : p &&& 8 = 0
        · rw [if_neg (fun z => z d4)]
          obtain ⟨m1, e1, s1⟩ := s119 (L := L) (xs := xs) (m := m) hx hl (40) (by omega)
          have hl1 := zSay_lc hl s1
          have l1 : zRL m1 = zRL m + 1 := zSay_len s1
          obtain ⟨m2, e2, s2⟩ := s119 (L := L) (xs := xs) (m := m1) hx hl1 (83) (by omega)
          have hl2 := zSay_lc hl1 s2
          have l2 : zRL m2 = zRL m1 + 1 := zSay_len s2
          obtain ⟨m3, e3, s3⟩ := s119 (L := L) (xs := xs) (m := m2) hx hl2 (70) (by omega)
          have hl3 := zSay_lc hl2 s3
          have l3 : zRL m3 = zRL m2 + 1 := zSay_len s3
          obtain ⟨m4, e4, s4⟩ := s119 (L := L) (xs := xs) (m := m3) hx hl3 (41) (by omega)
          have hl4 := zSay_lc hl3 s4
          have l4 : zRL m4 = zRL m3 + 1 := zSay_len s4
          have S := zSay_tr (zSay_tr (zSay_tr (s1) s2) s3) s4
          exact ⟨m4, p122_0_6 hx hl e1 d1 e2 d2 d3 e3 d4 e4, S⟩
        · rw [if_pos d4]
          obtain ⟨m1, e1, s1⟩ := s119 (L := L) (xs := xs) (m := m) hx hl (40) (by omega)
          have hl1 := zSay_lc hl s1
          have l1 : zRL m1 = zRL m + 1 := zSay_len s1
          obtain ⟨m2, e2, s2⟩ := s119 (L := L) (xs := xs) (m := m1) hx hl1 (83) (by omega)
          have hl2 := zSay_lc hl1 s2
          have l2 : zRL m2 = zRL m1 + 1 := zSay_len s2
          obtain ⟨m3, e3, s3⟩ := s119 (L := L) (xs := xs) (m := m2) hx hl2 (70) (by omega)
          have hl3 := zSay_lc hl2 s3
          have l3 : zRL m3 = zRL m2 + 1 := zSay_len s3
          obtain ⟨m4, e4, s4⟩ := s119 (L := L) (xs := xs) (m := m3) hx hl3 (68) (by omega)
          have hl4 := zSay_lc hl3 s4
          have l4 : zRL m4 = zRL m3 + 1 := zSay_len s4
          obtain ⟨m5, e5, s5⟩ := s119 (L := L) (xs := xs) (m := m4) hx hl4 (41) (by omega)
          have hl5 := zSay_lc hl4 s5
          have l5 : zRL m5 = zRL m4 + 1 := zSay_len s5
          have S := zSay_tr (zSay_tr (zSay_tr (zSay_tr (s1) s2) s3) s4) s5
          exact ⟨m5, p122_0_5 hx hl e1 d1 e2 d2 d3 e3 d4 e4 e5, S⟩
    · rw [if_pos d2]
      by_cases d3 : p &&& 4 = 0
      · rw [if_neg (fun z => z d3)]
        by_cases d4 : p &&& 8 = 0
        · rw [if_neg (fun z => z d4)]
          obtain ⟨m1, e1, s1⟩ := s119 (L := L) (xs := xs) (m := m) hx hl (40) (by omega)
          have hl1 := zSay_lc hl s1
          have l1 : zRL m1 = zRL m + 1 := zSay_len s1
          obtain ⟨m2, e2, s2⟩ := s119 (L := L) (xs := xs) (m := m1) hx hl1 (83) (by omega)
          have hl2 := zSay_lc hl1 s2
          have l2 : zRL m2 = zRL m1 + 1 := zSay_len s2
          obtain ⟨m3, e3, s3⟩ := s119 (L := L) (xs := xs) (m := m2) hx hl2 (65) (by omega)
          have hl3 := zSay_lc hl2 s3
          have l3 : zRL m3 = zRL m2 + 1 := zSay_len s3
          obtain ⟨m4, e4, s4⟩ := s119 (L := L) (xs := xs) (m := m3) hx hl3 (41) (by omega)
          have hl4 := zSay_lc hl3 s4
          have l4 : zRL m4 = zRL m3 + 1 := zSay_len s4
          have S := zSay_tr (zSay_tr (zSay_tr (s1) s2) s3) s4
          exact ⟨m4, p122_0_4 hx hl e1 d1 e2 d2 e3 d3 d4 e4, S⟩
        · rw [if_pos d4]
          obtain ⟨m1, e1, s1⟩ := s119 (L := L) (xs := xs) (m := m) hx hl (40) (by omega)
          have hl1 := zSay_lc hl s1
          have l1 : zRL m1 = zRL m + 1 := zSay_len s1
          obtain ⟨m2, e2, s2⟩ := s119 (L := L) (xs := xs) (m := m1) hx hl1 (83) (by omega)
          have hl2 := zSay_lc hl1 s2
          have l2 : zRL m2 = zRL m1 + 1 := zSay_len s2
          obtain ⟨m3, e3, s3⟩ := s119 (L := L) (xs := xs) (m := m2) hx hl2 (65) (by omega)
          have hl3 := zSay_lc hl2 s3
          have l3 : zRL m3 = zRL m2 + 1 := zSay_len s3
          obtain ⟨m4, e4, s4⟩ := s119 (L := L) (xs := xs) (m := m3) hx hl3 (68) (by omega)
          have hl4 := zSay_lc hl3 s4
          have l4 : zRL m4 = zRL m3 + 1 := zSay_len s4
          obtain ⟨m5, e5, s5⟩ := s119 (L := L) (xs := xs) (m := m4) hx hl4 (41) (by omega)
          have hl5 := zSay_lc hl4 s5
          have l5 : zRL m5 = zRL m4 + 1 := zSay_len s5
          have S := zSay_tr (zSay_tr (zSay_tr (zSay_tr (s1) s2) s3) s4) s5
          exact ⟨m5, p122_0_3 hx hl e1 d1 e2 d2 e3 d3 d4 e4 e5, S⟩
      · rw [if_pos d3]
        by_cases d4 : p &&& 8 = 0
        · rw [if_neg (fun z => z d4)]
          obtain ⟨m1, e1, s1⟩ := s119 (L := L) (xs := xs) (m := m) hx hl (40) (by omega)
          have hl1 := zSay_lc hl s1
          have l1 : zRL m1 = zRL m + 1 := zSay_len s1
          obtain ⟨m2, e2, s2⟩ := s119 (L := L) (xs := xs) (m := m1) hx hl1 (83) (by omega)
          have hl2 := zSay_lc hl1 s2
          have l2 : zRL m2 = zRL m1 + 1 := zSay_len s2
          obtain ⟨m3, e3, s3⟩ := s119 (L := L) (xs := xs) (m := m2) hx hl2 (65) (by omega)
          have hl3 := zSay_lc hl2 s3
          have l3 : zRL m3 = zRL m2 + 1 := zSay_len s3
          obtain ⟨m4, e4, s4⟩ := s119 (L := L) (xs := xs) (m := m3) hx hl3 (70) (by omega)
          have hl4 := zSay_lc hl3 s4
          have l4 : zRL m4 = zRL m3 + 1 := zSay_len s4
          obtain ⟨m5, e5, s5⟩ := s119 (L := L) (xs := xs) (m := m4) hx hl4 (41) (by omega)
          have hl5 := zSay_lc hl4 s5
          have l5 : zRL m5 = zRL m4 + 1 := zSay_len s5
          have S := zSay_tr (zSay_tr (zSay_tr (zSay_tr (s1) s2) s3) s4) s5
          exact ⟨m5, p122_0_2 hx hl e1 d1 e2 d2 e3 d3 e4 d4 e5, S⟩
        · rw [if_pos d4]
          obtain ⟨m1, e1, s1⟩ := s119 (L := L) (xs := xs) (m := m) hx hl (40) (by omega)
          have hl1 := zSay_lc hl s1
          have l1 : zRL m1 = zRL m + 1 := zSay_len s1
          obtain ⟨m2, e2, s2⟩ := s119 (L := L) (xs := xs) (m := m1) hx hl1 (83) (by omega)
          have hl2 := zSay_lc hl1 s2
          have l2 : zRL m2 = zRL m1 + 1 := zSay_len s2
          obtain ⟨m3, e3, s3⟩ := s119 (L := L) (xs := xs) (m := m2) hx hl2 (65) (by omega)
          have hl3 := zSay_lc hl2 s3
          have l3 : zRL m3 = zRL m2 + 1 := zSay_len s3
          obtain ⟨m4, e4, s4⟩ := s119 (L := L) (xs := xs) (m := m3) hx hl3 (70) (by omega)
          have hl4 := zSay_lc hl3 s4
          have l4 : zRL m4 = zRL m3 + 1 := zSay_len s4
          obtain ⟨m5, e5, s5⟩ := s119 (L := L) (xs := xs) (m := m4) hx hl4 (68) (by omega)
          have hl5 := zSay_lc hl4 s5
          have l5 : zRL m5 = zRL m4 + 1 := zSay_len s5
          obtain ⟨m6, e6, s6⟩ := s119 (L := L) (xs := xs) (m := m5) hx hl5 (41) (by omega)
          have hl6 := zSay_lc hl5 s6
          have l6 : zRL m6 = zRL m5 + 1 := zSay_len s6
          have S := zSay_tr (zSay_tr (zSay_tr (zSay_tr (zSay_tr (s1) s2) s3) s4) s5) s6
          exact ⟨m6, p122_0_1 hx hl e1 d1 e2 d2 e3 d3 e4 d4 e5 e6, S⟩
/-- one letter of a word -/
theorem s121k (hx : zFx h) (hl : zLC m c) {x : Int64} {k k' : Int32} {v : Nat} {w4 : Slot} (hk : ¬ k < 0) (hk' : k + (-1) = k') (hv : ((x >>> ((nI 5 * k).toInt64 &&& 63)).toInt32 &&& nI 31) = nI v) (hv1 : v < 32) (hw : w4 ≠ .second) (hr : zRL m < 2040) : ∃ m1 w', w' ≠ Slot.second ∧ zEv (zPr L xs) 1 121 3 [.val (.ref 132), .val (.long x), .second, .val (.int k), w4] [] (zMH h m) = zEv (zPr L xs) 1 121 3 [.val (.ref 132), .val (.long x), .second, .val (.int k'), w'] [] (zMH h m1) ∧ zSay m m1 (if v = 0 then [] else [64 + v]) := by
  subst hk'
  by_cases v0 : v = 0
  · refine ⟨m, _, (fun z => by cases z), p121_3_2 hx hl hk (by rw [hv, v0]; decide), ?_⟩
    rw [if_pos v0]; exact zSay_rf m
  · obtain ⟨m1, e, s⟩ := s119 (L := L) (xs := xs) (m := m) hx hl (64 + v) (by omega)
    refine ⟨m1, _, (fun z => by cases z), p121_3_1 hx hl hk (by rw [hv]; exact zi_le0 v hv1 v0) (by rw [hv, zi_add64 v hv1]; exact e), ?_⟩
    rw [if_neg v0]; exact s

theorem s121_FETCH (hx : zFx h) (hl : zLC m c) (hr : zRL m < 2030) : ∃ m', zCl (zPr L xs) 121 [.ref 132, .long (nL 6631301120)] (zMH h m) = some (.inl none, zMH h m') ∧ zSay m m' [70, 69, 84, 67, 72] := by
  rw [en_121, p121_0_1 hx hl]
  obtain ⟨m1, w1, hw1, e1, s1⟩ := s121k (L := L) (xs := xs) (h := h) (m := m) (x := nL 6631301120) (k := nI 6) (k' := nI 5) (v := 6) hx hl (by decide) (by decide) (by decide) (by decide) (by decide : Slot.unset ≠ .second) (by omega)
  have hl1 := zSay_lc hl s1
  have l1 : zRL m1 ≤ zRL m + 1 := by have := zSay_len s1; rw [this]; exact Nat.add_le_add_left (by decide) _
  obtain ⟨m2, w2, hw2, e2, s2⟩ := s121k (L := L) (xs := xs) (h := h) (m := m1) (x := nL 6631301120) (k := nI 5) (k' := nI 4) (v := 5) hx hl1 (by decide) (by decide) (by decide) (by decide) hw1 (by omega)
  have hl2 := zSay_lc hl1 s2
  have l2 : zRL m2 ≤ zRL m1 + 1 := by have := zSay_len s2; rw [this]; exact Nat.add_le_add_left (by decide) _
  obtain ⟨m3, w3, hw3, e3, s3⟩ := s121k (L := L) (xs := xs) (h := h) (m := m2) (x := nL 6631301120) (k := nI 4) (k' := nI 3) (v := 20) hx hl2 (by decide) (by decide) (by decide) (by decide) hw2 (by omega)
  have hl3 := zSay_lc hl2 s3
  have l3 : zRL m3 ≤ zRL m2 + 1 := by have := zSay_len s3; rw [this]; exact Nat.add_le_add_left (by decide) _
  obtain ⟨m4, w4, hw4, e4, s4⟩ := s121k (L := L) (xs := xs) (h := h) (m := m3) (x := nL 6631301120) (k := nI 3) (k' := nI 2) (v := 3) hx hl3 (by decide) (by decide) (by decide) (by decide) hw3 (by omega)
  have hl4 := zSay_lc hl3 s4
  have l4 : zRL m4 ≤ zRL m3 + 1 := by have := zSay_len s4; rw [this]; exact Nat.add_le_add_left (by decide) _
  obtain ⟨m5, w5, hw5, e5, s5⟩ := s121k (L := L) (xs := xs) (h := h) (m := m4) (x := nL 6631301120) (k := nI 2) (k' := nI 1) (v := 8) hx hl4 (by decide) (by decide) (by decide) (by decide) hw4 (by omega)
  have hl5 := zSay_lc hl4 s5
  have l5 : zRL m5 ≤ zRL m4 + 1 := by have := zSay_len s5; rw [this]; exact Nat.add_le_add_left (by decide) _
  obtain ⟨m6, w6, hw6, e6, s6⟩ := s121k (L := L) (xs := xs) (h := h) (m := m5) (x := nL 6631301120) (k := nI 1) (k' := nI 0) (v := 0) hx hl5 (by decide) (by decide) (by decide) (by decide) hw5 (by omega)
  have hl6 := zSay_lc hl5 s6
  have l6 : zRL m6 ≤ zRL m5 + 1 := by have := zSay_len s6; rw [this]; exact Nat.add_le_add_left (by decide) _
  obtain ⟨m7, w7, hw7, e7, s7⟩ := s121k (L := L) (xs := xs) (h := h) (m := m6) (x := nL 6631301120) (k := nI 0) (k' := -1) (v := 0) hx hl6 (by decide) (by decide) (by decide) (by decide) hw6 (by omega)
  have hl7 := zSay_lc hl6 s7
  have l7 : zRL m7 ≤ zRL m6 + 1 := by have := zSay_len s7; rw [this]; exact Nat.add_le_add_left (by decide) _
  rw [e1, e2, e3, e4, e5, e6, e7]
  have S := zSay_tr (zSay_tr (zSay_tr (zSay_tr (zSay_tr (zSay_tr (s1) s2) s3) s4) s5) s6) s7
  exact ⟨m7, p121_3_3 hx hl7 (by decide), S⟩
theorem s121_EXISTS (hx : zFx h) (hl : zLC m c) (hr : zRL m < 2030) : ∃ m', zCl (zPr L xs) 121 [.ref 132, .long (nL 6184096352)] (zMH h m) = some (.inl none, zMH h m') ∧ zSay m m' [69, 88, 73, 83, 84, 83] := by
  rw [en_121, p121_0_1 hx hl]
  obtain ⟨m1, w1, hw1, e1, s1⟩ := s121k (L := L) (xs := xs) (h := h) (m := m) (x := nL 6184096352) (k := nI 6) (k' := nI 5) (v := 5) hx hl (by decide) (by decide) (by decide) (by decide) (by decide : Slot.unset ≠ .second) (by omega)
  have hl1 := zSay_lc hl s1
  have l1 : zRL m1 ≤ zRL m + 1 := by have := zSay_len s1; rw [this]; exact Nat.add_le_add_left (by decide) _
  obtain ⟨m2, w2, hw2, e2, s2⟩ := s121k (L := L) (xs := xs) (h := h) (m := m1) (x := nL 6184096352) (k := nI 5) (k' := nI 4) (v := 24) hx hl1 (by decide) (by decide) (by decide) (by decide) hw1 (by omega)
  have hl2 := zSay_lc hl1 s2
  have l2 : zRL m2 ≤ zRL m1 + 1 := by have := zSay_len s2; rw [this]; exact Nat.add_le_add_left (by decide) _
  obtain ⟨m3, w3, hw3, e3, s3⟩ := s121k (L := L) (xs := xs) (h := h) (m := m2) (x := nL 6184096352) (k := nI 4) (k' := nI 3) (v := 9) hx hl2 (by decide) (by decide) (by decide) (by decide) hw2 (by omega)
  have hl3 := zSay_lc hl2 s3
  have l3 : zRL m3 ≤ zRL m2 + 1 := by have := zSay_len s3; rw [this]; exact Nat.add_le_add_left (by decide) _
  obtain ⟨m4, w4, hw4, e4, s4⟩ := s121k (L := L) (xs := xs) (h := h) (m := m3) (x := nL 6184096352) (k := nI 3) (k' := nI 2) (v := 19) hx hl3 (by decide) (by decide) (by decide) (by decide) hw3 (by omega)
  have hl4 := zSay_lc hl3 s4
  have l4 : zRL m4 ≤ zRL m3 + 1 := by have := zSay_len s4; rw [this]; exact Nat.add_le_add_left (by decide) _
  obtain ⟨m5, w5, hw5, e5, s5⟩ := s121k (L := L) (xs := xs) (h := h) (m := m4) (x := nL 6184096352) (k := nI 2) (k' := nI 1) (v := 20) hx hl4 (by decide) (by decide) (by decide) (by decide) hw4 (by omega)
  have hl5 := zSay_lc hl4 s5
  have l5 : zRL m5 ≤ zRL m4 + 1 := by have := zSay_len s5; rw [this]; exact Nat.add_le_add_left (by decide) _
  obtain ⟨m6, w6, hw6, e6, s6⟩ := s121k (L := L) (xs := xs) (h := h) (m := m5) (x := nL 6184096352) (k := nI 1) (k' := nI 0) (v := 19) hx hl5 (by decide) (by decide) (by decide) (by decide) hw5 (by omega)
  have hl6 := zSay_lc hl5 s6
  have l6 : zRL m6 ≤ zRL m5 + 1 := by have := zSay_len s6; rw [this]; exact Nat.add_le_add_left (by decide) _
  obtain ⟨m7, w7, hw7, e7, s7⟩ := s121k (L := L) (xs := xs) (h := h) (m := m6) (x := nL 6184096352) (k := nI 0) (k' := -1) (v := 0) hx hl6 (by decide) (by decide) (by decide) (by decide) hw6 (by omega)
  have hl7 := zSay_lc hl6 s7
  have l7 : zRL m7 ≤ zRL m6 + 1 := by have := zSay_len s7; rw [this]; exact Nat.add_le_add_left (by decide) _
  rw [e1, e2, e3, e4, e5, e6, e7]
  have S := zSay_tr (zSay_tr (zSay_tr (zSay_tr (zSay_tr (zSay_tr (s1) s2) s3) s4) s5) s6) s7
  exact ⟨m7, p121_3_3 hx hl7 (by decide), S⟩
theorem s121_UIDVALI (hx : zFx h) (hl : zLC m c) (hr : zRL m < 2030) : ∃ m', zCl (zPr L xs) 121 [.ref 132, .long (nL 22855484809)] (zMH h m) = some (.inl none, zMH h m') ∧ zSay m m' [85, 73, 68, 86, 65, 76, 73] := by
  rw [en_121, p121_0_1 hx hl]
  obtain ⟨m1, w1, hw1, e1, s1⟩ := s121k (L := L) (xs := xs) (h := h) (m := m) (x := nL 22855484809) (k := nI 6) (k' := nI 5) (v := 21) hx hl (by decide) (by decide) (by decide) (by decide) (by decide : Slot.unset ≠ .second) (by omega)
  have hl1 := zSay_lc hl s1
  have l1 : zRL m1 ≤ zRL m + 1 := by have := zSay_len s1; rw [this]; exact Nat.add_le_add_left (by decide) _
  obtain ⟨m2, w2, hw2, e2, s2⟩ := s121k (L := L) (xs := xs) (h := h) (m := m1) (x := nL 22855484809) (k := nI 5) (k' := nI 4) (v := 9) hx hl1 (by decide) (by decide) (by decide) (by decide) hw1 (by omega)
  have hl2 := zSay_lc hl1 s2
  have l2 : zRL m2 ≤ zRL m1 + 1 := by have := zSay_len s2; rw [this]; exact Nat.add_le_add_left (by decide) _
  obtain ⟨m3, w3, hw3, e3, s3⟩ := s121k (L := L) (xs := xs) (h := h) (m := m2) (x := nL 22855484809) (k := nI 4) (k' := nI 3) (v := 4) hx hl2 (by decide) (by decide) (by decide) (by decide) hw2 (by omega)
  have hl3 := zSay_lc hl2 s3
  have l3 : zRL m3 ≤ zRL m2 + 1 := by have := zSay_len s3; rw [this]; exact Nat.add_le_add_left (by decide) _
  obtain ⟨m4, w4, hw4, e4, s4⟩ := s121k (L := L) (xs := xs) (h := h) (m := m3) (x := nL 22855484809) (k := nI 3) (k' := nI 2) (v := 22) hx hl3 (by decide) (by decide) (by decide) (by decide) hw3 (by omega)
  have hl4 := zSay_lc hl3 s4
  have l4 : zRL m4 ≤ zRL m3 + 1 := by have := zSay_len s4; rw [this]; exact Nat.add_le_add_left (by decide) _
  obtain ⟨m5, w5, hw5, e5, s5⟩ := s121k (L := L) (xs := xs) (h := h) (m := m4) (x := nL 22855484809) (k := nI 2) (k' := nI 1) (v := 1) hx hl4 (by decide) (by decide) (by decide) (by decide) hw4 (by omega)
  have hl5 := zSay_lc hl4 s5
  have l5 : zRL m5 ≤ zRL m4 + 1 := by have := zSay_len s5; rw [this]; exact Nat.add_le_add_left (by decide) _
  obtain ⟨m6, w6, hw6, e6, s6⟩ := s121k (L := L) (xs := xs) (h := h) (m := m5) (x := nL 22855484809) (k := nI 1) (k' := nI 0) (v := 12) hx hl5 (by decide) (by decide) (by decide) (by decide) hw5 (by omega)
  have hl6 := zSay_lc hl5 s6
  have l6 : zRL m6 ≤ zRL m5 + 1 := by have := zSay_len s6; rw [this]; exact Nat.add_le_add_left (by decide) _
  obtain ⟨m7, w7, hw7, e7, s7⟩ := s121k (L := L) (xs := xs) (h := h) (m := m6) (x := nL 22855484809) (k := nI 0) (k' := -1) (v := 9) hx hl6 (by decide) (by decide) (by decide) (by decide) hw6 (by omega)
  have hl7 := zSay_lc hl6 s7
  have l7 : zRL m7 ≤ zRL m6 + 1 := by have := zSay_len s7; rw [this]; exact Nat.add_le_add_left (by decide) _
  rw [e1, e2, e3, e4, e5, e6, e7]
  have S := zSay_tr (zSay_tr (zSay_tr (zSay_tr (zSay_tr (zSay_tr (s1) s2) s3) s4) s5) s6) s7
  exact ⟨m7, p121_3_3 hx hl7 (by decide), S⟩
theorem s121_DITY (hx : zFx h) (hl : zLC m c) (hr : zRL m < 2030) : ∃ m', zCl (zPr L xs) 121 [.ref 132, .long (nL 4618747904)] (zMH h m) = some (.inl none, zMH h m') ∧ zSay m m' [68, 73, 84, 89] := by
  rw [en_121, p121_0_1 hx hl]
  obtain ⟨m1, w1, hw1, e1, s1⟩ := s121k (L := L) (xs := xs) (h := h) (m := m) (x := nL 4618747904) (k := nI 6) (k' := nI 5) (v := 4) hx hl (by decide) (by decide) (by decide) (by decide) (by decide : Slot.unset ≠ .second) (by omega)
  have hl1 := zSay_lc hl s1
  have l1 : zRL m1 ≤ zRL m + 1 := by have := zSay_len s1; rw [this]; exact Nat.add_le_add_left (by decide) _
  obtain ⟨m2, w2, hw2, e2, s2⟩ := s121k (L := L) (xs := xs) (h := h) (m := m1) (x := nL 4618747904) (k := nI 5) (k' := nI 4) (v := 9) hx hl1 (by decide) (by decide) (by decide) (by decide) hw1 (by omega)
  have hl2 := zSay_lc hl1 s2
  have l2 : zRL m2 ≤ zRL m1 + 1 := by have := zSay_len s2; rw [this]; exact Nat.add_le_add_left (by decide) _
  obtain ⟨m3, w3, hw3, e3, s3⟩ := s121k (L := L) (xs := xs) (h := h) (m := m2) (x := nL 4618747904) (k := nI 4) (k' := nI 3) (v := 20) hx hl2 (by decide) (by decide) (by decide) (by decide) hw2 (by omega)
  have hl3 := zSay_lc hl2 s3
  have l3 : zRL m3 ≤ zRL m2 + 1 := by have := zSay_len s3; rw [this]; exact Nat.add_le_add_left (by decide) _
  obtain ⟨m4, w4, hw4, e4, s4⟩ := s121k (L := L) (xs := xs) (h := h) (m := m3) (x := nL 4618747904) (k := nI 3) (k' := nI 2) (v := 25) hx hl3 (by decide) (by decide) (by decide) (by decide) hw3 (by omega)
  have hl4 := zSay_lc hl3 s4
  have l4 : zRL m4 ≤ zRL m3 + 1 := by have := zSay_len s4; rw [this]; exact Nat.add_le_add_left (by decide) _
  obtain ⟨m5, w5, hw5, e5, s5⟩ := s121k (L := L) (xs := xs) (h := h) (m := m4) (x := nL 4618747904) (k := nI 2) (k' := nI 1) (v := 0) hx hl4 (by decide) (by decide) (by decide) (by decide) hw4 (by omega)
  have hl5 := zSay_lc hl4 s5
  have l5 : zRL m5 ≤ zRL m4 + 1 := by have := zSay_len s5; rw [this]; exact Nat.add_le_add_left (by decide) _
  obtain ⟨m6, w6, hw6, e6, s6⟩ := s121k (L := L) (xs := xs) (h := h) (m := m5) (x := nL 4618747904) (k := nI 1) (k' := nI 0) (v := 0) hx hl5 (by decide) (by decide) (by decide) (by decide) hw5 (by omega)
  have hl6 := zSay_lc hl5 s6
  have l6 : zRL m6 ≤ zRL m5 + 1 := by have := zSay_len s6; rw [this]; exact Nat.add_le_add_left (by decide) _
  obtain ⟨m7, w7, hw7, e7, s7⟩ := s121k (L := L) (xs := xs) (h := h) (m := m6) (x := nL 4618747904) (k := nI 0) (k' := -1) (v := 0) hx hl6 (by decide) (by decide) (by decide) (by decide) hw6 (by omega)
  have hl7 := zSay_lc hl6 s7
  have l7 : zRL m7 ≤ zRL m6 + 1 := by have := zSay_len s7; rw [this]; exact Nat.add_le_add_left (by decide) _
  rw [e1, e2, e3, e4, e5, e6, e7]
  have S := zSay_tr (zSay_tr (zSay_tr (zSay_tr (zSay_tr (zSay_tr (s1) s2) s3) s4) s5) s6) s7
  exact ⟨m7, p121_3_3 hx hl7 (by decide), S⟩
theorem s121_UIDNEXT (hx : zFx h) (hl : zLC m c) (hr : zRL m < 2030) : ∃ m', zCl (zPr L xs) 121 [.ref 132, .long (nL 22855227156)] (zMH h m) = some (.inl none, zMH h m') ∧ zSay m m' [85, 73, 68, 78, 69, 88, 84] := by
  rw [en_121, p121_0_1 hx hl]
  obtain ⟨m1, w1, hw1, e1, s1⟩ := s121k (L := L) (xs := xs) (h := h) (m := m) (x := nL 22855227156) (k := nI 6) (k' := nI 5) (v := 21) hx hl (by decide) (by decide) (by decide) (by decide) (by decide : Slot.unset ≠ .second) (by omega)
  have hl1 := zSay_lc hl s1
  have l1 : zRL m1 ≤ zRL m + 1 := by have := zSay_len s1; rw [this]; exact Nat.add_le_add_left (by decide) _
  obtain ⟨m2, w2, hw2, e2, s2⟩ := s121k (L := L) (xs := xs) (h := h) (m := m1) (x := nL 22855227156) (k := nI 5) (k' := nI 4) (v := 9) hx hl1 (by decide) (by decide) (by decide) (by decide) hw1 (by omega)
  have hl2 := zSay_lc hl1 s2
  have l2 : zRL m2 ≤ zRL m1 + 1 := by have := zSay_len s2; rw [this]; exact Nat.add_le_add_left (by decide) _
  obtain ⟨m3, w3, hw3, e3, s3⟩ := s121k (L := L) (xs := xs) (h := h) (m := m2) (x := nL 22855227156) (k := nI 4) (k' := nI 3) (v := 4) hx hl2 (by decide) (by decide) (by decide) (by decide) hw2 (by omega)
  have hl3 := zSay_lc hl2 s3
  have l3 : zRL m3 ≤ zRL m2 + 1 := by have := zSay_len s3; rw [this]; exact Nat.add_le_add_left (by decide) _
  obtain ⟨m4, w4, hw4, e4, s4⟩ := s121k (L := L) (xs := xs) (h := h) (m := m3) (x := nL 22855227156) (k := nI 3) (k' := nI 2) (v := 14) hx hl3 (by decide) (by decide) (by decide) (by decide) hw3 (by omega)
  have hl4 := zSay_lc hl3 s4
  have l4 : zRL m4 ≤ zRL m3 + 1 := by have := zSay_len s4; rw [this]; exact Nat.add_le_add_left (by decide) _
  obtain ⟨m5, w5, hw5, e5, s5⟩ := s121k (L := L) (xs := xs) (h := h) (m := m4) (x := nL 22855227156) (k := nI 2) (k' := nI 1) (v := 5) hx hl4 (by decide) (by decide) (by decide) (by decide) hw4 (by omega)
  have hl5 := zSay_lc hl4 s5
  have l5 : zRL m5 ≤ zRL m4 + 1 := by have := zSay_len s5; rw [this]; exact Nat.add_le_add_left (by decide) _
  obtain ⟨m6, w6, hw6, e6, s6⟩ := s121k (L := L) (xs := xs) (h := h) (m := m5) (x := nL 22855227156) (k := nI 1) (k' := nI 0) (v := 24) hx hl5 (by decide) (by decide) (by decide) (by decide) hw5 (by omega)
  have hl6 := zSay_lc hl5 s6
  have l6 : zRL m6 ≤ zRL m5 + 1 := by have := zSay_len s6; rw [this]; exact Nat.add_le_add_left (by decide) _
  obtain ⟨m7, w7, hw7, e7, s7⟩ := s121k (L := L) (xs := xs) (h := h) (m := m6) (x := nL 22855227156) (k := nI 0) (k' := -1) (v := 20) hx hl6 (by decide) (by decide) (by decide) (by decide) hw6 (by omega)
  have hl7 := zSay_lc hl6 s7
  have l7 : zRL m7 ≤ zRL m6 + 1 := by have := zSay_len s7; rw [this]; exact Nat.add_le_add_left (by decide) _
  rw [e1, e2, e3, e4, e5, e6, e7]
  have S := zSay_tr (zSay_tr (zSay_tr (zSay_tr (zSay_tr (zSay_tr (s1) s2) s3) s4) s5) s6) s7
  exact ⟨m7, p121_3_3 hx hl7 (by decide), S⟩
theorem s121_EXPUNGE (hx : zFx h) (hl : zLC m c) (hr : zRL m < 2030) : ∃ m', zCl (zPr L xs) 121 [.ref 132, .long (nL 6191495397)] (zMH h m) = some (.inl none, zMH h m') ∧ zSay m m' [69, 88, 80, 85, 78, 71, 69] := by
  rw [en_121, p121_0_1 hx hl]
  obtain ⟨m1, w1, hw1, e1, s1⟩ := s121k (L := L) (xs := xs) (h := h) (m := m) (x := nL 6191495397) (k := nI 6) (k' := nI 5) (v := 5) hx hl (by decide) (by decide) (by decide) (by decide) (by decide : Slot.unset ≠ .second) (by omega)
  have hl1 := zSay_lc hl s1
  have l1 : zRL m1 ≤ zRL m + 1 := by have := zSay_len s1; rw [this]; exact Nat.add_le_add_left (by decide) _
  obtain ⟨m2, w2, hw2, e2, s2⟩ := s121k (L := L) (xs := xs) (h := h) (m := m1) (x := nL 6191495397) (k := nI 5) (k' := nI 4) (v := 24) hx hl1 (by decide) (by decide) (by decide) (by decide) hw1 (by omega)
  have hl2 := zSay_lc hl1 s2
  have l2 : zRL m2 ≤ zRL m1 + 1 := by have := zSay_len s2; rw [this]; exact Nat.add_le_add_left (by decide) _
  obtain ⟨m3, w3, hw3, e3, s3⟩ := s121k (L := L) (xs := xs) (h := h) (m := m2) (x := nL 6191495397) (k := nI 4) (k' := nI 3) (v := 16) hx hl2 (by decide) (by decide) (by decide) (by decide) hw2 (by omega)
  have hl3 := zSay_lc hl2 s3
  have l3 : zRL m3 ≤ zRL m2 + 1 := by have := zSay_len s3; rw [this]; exact Nat.add_le_add_left (by decide) _
  obtain ⟨m4, w4, hw4, e4, s4⟩ := s121k (L := L) (xs := xs) (h := h) (m := m3) (x := nL 6191495397) (k := nI 3) (k' := nI 2) (v := 21) hx hl3 (by decide) (by decide) (by decide) (by decide) hw3 (by omega)
  have hl4 := zSay_lc hl3 s4
  have l4 : zRL m4 ≤ zRL m3 + 1 := by have := zSay_len s4; rw [this]; exact Nat.add_le_add_left (by decide) _
  obtain ⟨m5, w5, hw5, e5, s5⟩ := s121k (L := L) (xs := xs) (h := h) (m := m4) (x := nL 6191495397) (k := nI 2) (k' := nI 1) (v := 14) hx hl4 (by decide) (by decide) (by decide) (by decide) hw4 (by omega)
  have hl5 := zSay_lc hl4 s5
  have l5 : zRL m5 ≤ zRL m4 + 1 := by have := zSay_len s5; rw [this]; exact Nat.add_le_add_left (by decide) _
  obtain ⟨m6, w6, hw6, e6, s6⟩ := s121k (L := L) (xs := xs) (h := h) (m := m5) (x := nL 6191495397) (k := nI 1) (k' := nI 0) (v := 7) hx hl5 (by decide) (by decide) (by decide) (by decide) hw5 (by omega)
  have hl6 := zSay_lc hl5 s6
  have l6 : zRL m6 ≤ zRL m5 + 1 := by have := zSay_len s6; rw [this]; exact Nat.add_le_add_left (by decide) _
  obtain ⟨m7, w7, hw7, e7, s7⟩ := s121k (L := L) (xs := xs) (h := h) (m := m6) (x := nL 6191495397) (k := nI 0) (k' := -1) (v := 5) hx hl6 (by decide) (by decide) (by decide) (by decide) hw6 (by omega)
  have hl7 := zSay_lc hl6 s7
  have l7 : zRL m7 ≤ zRL m6 + 1 := by have := zSay_len s7; rw [this]; exact Nat.add_le_add_left (by decide) _
  rw [e1, e2, e3, e4, e5, e6, e7]
  have S := zSay_tr (zSay_tr (zSay_tr (zSay_tr (zSay_tr (zSay_tr (s1) s2) s3) s4) s5) s6) s7
  exact ⟨m7, p121_3_3 hx hl7 (by decide), S⟩
theorem s121_SEARCH (hx : zFx h) (hl : zLC m c) (hr : zRL m < 2030) : ∃ m', zCl (zPr L xs) 121 [.ref 132, .long (nL 20570508544)] (zMH h m) = some (.inl none, zMH h m') ∧ zSay m m' [83, 69, 65, 82, 67, 72] := by
  rw [en_121, p121_0_1 hx hl]
  obtain ⟨m1, w1, hw1, e1, s1⟩ := s121k (L := L) (xs := xs) (h := h) (m := m) (x := nL 20570508544) (k := nI 6) (k' := nI 5) (v := 19) hx hl (by decide) (by decide) (by decide) (by decide) (by decide : Slot.unset ≠ .second) (by omega)
  have hl1 := zSay_lc hl s1
  have l1 : zRL m1 ≤ zRL m + 1 := by have := zSay_len s1; rw [this]; exact Nat.add_le_add_left (by decide) _
  obtain ⟨m2, w2, hw2, e2, s2⟩ := s121k (L := L) (xs := xs) (h := h) (m := m1) (x := nL 20570508544) (k := nI 5) (k' := nI 4) (v := 5) hx hl1 (by decide) (by decide) (by decide) (by decide) hw1 (by omega)
  have hl2 := zSay_lc hl1 s2
  have l2 : zRL m2 ≤ zRL m1 + 1 := by have := zSay_len s2; rw [this]; exact Nat.add_le_add_left (by decide) _
  obtain ⟨m3, w3, hw3, e3, s3⟩ := s121k (L := L) (xs := xs) (h := h) (m := m2) (x := nL 20570508544) (k := nI 4) (k' := nI 3) (v := 1) hx hl2 (by decide) (by decide) (by decide) (by decide) hw2 (by omega)
  have hl3 := zSay_lc hl2 s3
  have l3 : zRL m3 ≤ zRL m2 + 1 := by have := zSay_len s3; rw [this]; exact Nat.add_le_add_left (by decide) _
  obtain ⟨m4, w4, hw4, e4, s4⟩ := s121k (L := L) (xs := xs) (h := h) (m := m3) (x := nL 20570508544) (k := nI 3) (k' := nI 2) (v := 18) hx hl3 (by decide) (by decide) (by decide) (by decide) hw3 (by omega)
  have hl4 := zSay_lc hl3 s4
  have l4 : zRL m4 ≤ zRL m3 + 1 := by have := zSay_len s4; rw [this]; exact Nat.add_le_add_left (by decide) _
  obtain ⟨m5, w5, hw5, e5, s5⟩ := s121k (L := L) (xs := xs) (h := h) (m := m4) (x := nL 20570508544) (k := nI 2) (k' := nI 1) (v := 3) hx hl4 (by decide) (by decide) (by decide) (by decide) hw4 (by omega)
  have hl5 := zSay_lc hl4 s5
  have l5 : zRL m5 ≤ zRL m4 + 1 := by have := zSay_len s5; rw [this]; exact Nat.add_le_add_left (by decide) _
  obtain ⟨m6, w6, hw6, e6, s6⟩ := s121k (L := L) (xs := xs) (h := h) (m := m5) (x := nL 20570508544) (k := nI 1) (k' := nI 0) (v := 8) hx hl5 (by decide) (by decide) (by decide) (by decide) hw5 (by omega)
  have hl6 := zSay_lc hl5 s6
  have l6 : zRL m6 ≤ zRL m5 + 1 := by have := zSay_len s6; rw [this]; exact Nat.add_le_add_left (by decide) _
  obtain ⟨m7, w7, hw7, e7, s7⟩ := s121k (L := L) (xs := xs) (h := h) (m := m6) (x := nL 20570508544) (k := nI 0) (k' := -1) (v := 0) hx hl6 (by decide) (by decide) (by decide) (by decide) hw6 (by omega)
  have hl7 := zSay_lc hl6 s7
  have l7 : zRL m7 ≤ zRL m6 + 1 := by have := zSay_len s7; rw [this]; exact Nat.add_le_add_left (by decide) _
  rw [e1, e2, e3, e4, e5, e6, e7]
  have S := zSay_tr (zSay_tr (zSay_tr (zSay_tr (zSay_tr (zSay_tr (s1) s2) s3) s4) s5) s6) s7
  exact ⟨m7, p121_3_3 hx hl7 (by decide), S⟩
/-- a count with its word -/
theorem s123 (hx : zFx h) (hl : zLC m c) (n : Nat) (q : Int64) (T : List Nat) (hn : n < 10000) (hr : zRL m < 1990) (hw : ∀ m1 : zMm, zLC m1 c → zRL m1 < 2030 → ∃ m', zCl (zPr L xs) 121 [.ref 132, .long q] (zMH h m1) = some (.inl none, zMH h m') ∧ zSay m1 m' T) : ∃ m', zCl (zPr L xs) 123 [.ref 132, .int (nI n), .long q] (zMH h m) = some (.inl none, zMH h m') ∧ zSay m m' ([42, 32] ++ zds n ++ [32] ++ T) := by
  rw [en_123]
  obtain ⟨m1, e1, s1⟩ := s119 (L := L) (xs := xs) hx hl 42 (by omega)
  have hl1 := zSay_lc hl s1
  have l1 : zRL m1 = zRL m + 1 := zSay_len s1
  obtain ⟨m2, e2, s2⟩ := s119 (L := L) (xs := xs) hx hl1 32 (by omega)
  have hl2 := zSay_lc hl1 s2
  have l2 : zRL m2 = zRL m1 + 1 := zSay_len s2
  obtain ⟨m3, e3, s3⟩ := s120 (L := L) (xs := xs) hx hl2 n hn (by omega)
  have hl3 := zSay_lc hl2 s3
  have l3 := zSay_len s3
  have d := zds_len n
  obtain ⟨m4, e4, s4⟩ := s119 (L := L) (xs := xs) hx hl3 32 (by omega)
  have hl4 := zSay_lc hl3 s4
  have l4 : zRL m4 = zRL m3 + 1 := zSay_len s4
  obtain ⟨m5, e5, s5⟩ := hw m4 hl4 (by omega)
  exact ⟨m5, p123_0_1 hx hl e1 e2 e3 e4 e5, zSay_tr (zSay_tr (zSay_tr (zSay_tr s1 s2) s3) s4) s5⟩
def zft (n f : Nat) : List Nat := [42, 32] ++ zds n ++ [32] ++ [70, 69, 84, 67, 72] ++ [32] ++ zfl f ++ [10]
/-- a FETCH line of flags -/
theorem s124 (hx : zFx h) (hl : zLC m c) (n f : Nat) (hn : 1 ≤ n ∧ n ≤ 40) (hr : zRL m < 1950) : ∃ m4, zCl (zPr L xs) 124 [.ref 132, .int (nI n), .int (nI f)] (zMH h m) = some (.inl none, zMH h (u3 m4 0 146 (40 * (m 520 132 0) + n - 1) f)) ∧ zSay m m4 (zft n f) := by
  rw [en_124]
  have t3 := hl.1.1
  obtain ⟨m1, e1, s1⟩ := s123 (L := L) (xs := xs) hx hl n (nL 6631301120) [70, 69, 84, 67, 72] (by omega) (by omega) (fun m1 hl1 hr1 => s121_FETCH hx hl1 hr1)
  have hl1 := zSay_lc hl s1
  have l1 := zSay_len s1
  have d1 : ([42, 32] ++ zds n ++ [32] ++ [70, 69, 84, 67, 72]).length ≤ 12 := by
    have := zds_len n
    simp only [List.length_append, List.length_cons, List.length_nil]
    omega
  obtain ⟨m2, e2, s2⟩ := s119 (L := L) (xs := xs) hx hl1 32 (by omega)
  have hl2 := zSay_lc hl1 s2
  have l2 : zRL m2 = zRL m1 + 1 := zSay_len s2
  obtain ⟨m3, e3, s3⟩ := s122 (L := L) (xs := xs) hx hl2 f (by omega)
  have hl3 := zSay_lc hl2 s3
  have l3 := zSay_len s3
  have d := zfl_len f
  obtain ⟨m4, e4, s4⟩ := s119 (L := L) (xs := xs) hx hl3 10 (by omega)
  have S := zSay_tr (zSay_tr (zSay_tr s1 s2) s3) s4
  have es := zSay_ses S
  refine ⟨m4, ?_, S⟩
  rw [← es]
  exact p124_0_1 hx hl e1 e2 e3 e4 (b1 := by omega) (b2 := by omega)
/-- the tag, and OK or NO -/
def zokt (ok : Bool) : List Nat := if ok then [32, 79, 75] else [32, 78, 79]
theorem s125 (hx : zFx h) (hl : zLC m c) (ok : Bool) (ht : m 524 132 0 ≤ 2) (hr : zRL m < 2000) : ∃ m', zCl (zPr L xs) 125 [.ref 132, .int (nI ok.toNat)] (zMH h m) = some (.inl none, zMH h m') ∧ zSay m m' ((List.range (m 524 132 0)).map c ++ zokt ok) := by
  rw [en_125, p125_0_1 hx hl]
  have loop : ∀ (f k : Nat) (m : zMm) (w : Slot), zLC m c → w ≠ .second → m 524 132 0 ≤ 2 → f + k = m 524 132 0 → zRL m + f < 2030 → ∃ m' w', w' ≠ Slot.second ∧ zEv (zPr L xs) 1 125 2 [.val (.ref 132), .val (.int (nI ok.toNat)), .val (.int (nI k)), w] [] (zMH h m) = zEv (zPr L xs) 1 125 2 [.val (.ref 132), .val (.int (nI ok.toNat)), .val (.int (nI (m 524 132 0))), w'] [] (zMH h m') ∧ zSay m m' ((List.range' k f).map c) := by
    intro f
    induction f with
    | zero => intro k m w hl hw h2 hk hr; rw [show k = m 524 132 0 by omega]; exact ⟨m, w, hw, rfl, zSay_rf m⟩
    | succ f ih =>
      intro k m w hl hw h2 hk hr
      obtain ⟨m1, e1, s1⟩ := s119 (L := L) (xs := xs) hx hl (c k) (by omega)
      have hl1 := zSay_lc hl s1
      have l1 : zRL m1 = zRL m + 1 := zSay_len s1
      have t1 : m1 524 132 0 = m 524 132 0 := s1.1 _ _ _ (by decide)
      have s := p125_2_1 (x1 := ok) hx hl (show k < m 524 132 0 by omega) e1 hw (by omega) (by omega)
      obtain ⟨m2, w2, hw2, e2, s2⟩ := ih (k + 1) m1 (.val (.int (nI (c k)))) hl1 (fun z => by cases z) (by omega) (by omega) (by omega)
      rw [t1] at e2
      exact ⟨m2, w2, hw2, s.trans e2, zSay_tr s1 s2⟩
  obtain ⟨m1, w1, hw1, e1, s1⟩ := loop (m 524 132 0) 0 m .unset hl (by decide) ht (by omega) (by omega)
  have hl1 := zSay_lc hl s1
  have l1 := zSay_len s1
  rw [List.length_map, List.length_range'] at l1
  have t1 : m1 524 132 0 = m 524 132 0 := s1.1 _ _ _ (by decide)
  rw [List.range_eq_range']
  obtain ⟨m2, e2, s2⟩ := s119 (L := L) (xs := xs) hx hl1 32 (by omega)
  have hl2 := zSay_lc hl1 s2
  have l2 : zRL m2 = zRL m1 + 1 := zSay_len s2
  rw [e1]
  have c1 : m1 524 132 0 ≤ m 524 132 0 := Nat.le_of_eq t1
  cases ok with
  | true =>
    obtain ⟨m3, e3, s3⟩ := s119 (L := L) (xs := xs) hx hl2 79 (by omega)
    have hl3 := zSay_lc hl2 s3
    have l3 : zRL m3 = zRL m2 + 1 := zSay_len s3
    obtain ⟨m4, e4, s4⟩ := s119 (L := L) (xs := xs) hx hl3 75 (by omega)
    exact ⟨m4, p125_2_2 hx hl1 c1 e2 rfl e3 rfl e4 (by omega) (by omega), zSay_tr s1 (zSay_tr (zSay_tr s2 s3) s4)⟩
  | false =>
    obtain ⟨m3, e3, s3⟩ := s119 (L := L) (xs := xs) hx hl2 78 (by omega)
    have hl3 := zSay_lc hl2 s3
    have l3 : zRL m3 = zRL m2 + 1 := zSay_len s3
    obtain ⟨m4, e4, s4⟩ := s119 (L := L) (xs := xs) hx hl3 79 (by omega)
    exact ⟨m4, p125_2_5 hx hl1 c1 e2 rfl e3 rfl e4 (by omega) (by omega), zSay_tr s1 (zSay_tr (zSay_tr s2 s3) s4)⟩
end

