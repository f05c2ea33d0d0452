/-! ===== what the reference's memory says: mailboxes, views; a message comes ===== -/
/-- number, flags, text -/
abbrev zMg : Type := Nat × Nat × List Nat
def ztx (m : zMm) (j : Nat) : List Nat := (List.range (m 0 139 j)).map fun k => m 0 140 (6 * j + k)
def zmg (m : zMm) (j : Nat) : zMg := (m 0 137 j, m 0 138 j, ztx m j)
def zbm (m : zMm) (b : Nat) : List zMg := (List.range (m 0 136 b)).map fun i => zmg m (10 * b + i)
/-- there, validity, next, messages -/
abbrev zBx : Type := Nat × Nat × Nat × List zMg
def zbx (m : zMm) (b : Nat) : zBx := (m 0 133 b, m 0 134 b, m 0 135 b, zbm m b)
def zvw (m : zMm) (s : Nat) : List (Nat × Nat) := (List.range (m 0 144 s)).map fun i => (m 0 145 (40 * s + i), m 0 146 (40 * s + i))
/-- the message's cell j is as it was -/
def zsj (m m' : zMm) (j : Nat) : Prop := m' 0 137 j = m 0 137 j ∧ m' 0 138 j = m 0 138 j ∧ m' 0 139 j = m 0 139 j ∧ ∀ k, k < 6 → m' 0 140 (6 * j + k) = m 0 140 (6 * j + k)
theorem zsj_mg {m m' : zMm} {j : Nat} (h : zsj m m' j) (h6 : m 0 139 j ≤ 6) : zmg m' j = zmg m j := by
  obtain ⟨a1, a2, a3, a4⟩ := h
  unfold zmg ztx
  rw [a1, a2, a3]
  congr 2
  exact List.map_congr_left fun k hk => a4 k (by have := List.mem_range.mp hk; omega)
theorem zbm_eq {m m' : zMm} {b : Nat} (hc : m' 0 136 b = m 0 136 b) (h : ∀ i, i < m 0 136 b → zsj m m' (10 * b + i)) (h6 : ∀ i, i < m 0 136 b → m 0 139 (10 * b + i) ≤ 6) : zbm m' b = zbm m b := by
  unfold zbm
  rw [hc]
  exact List.map_congr_left fun i hi => zsj_mg (h i (List.mem_range.mp hi)) (h6 i (List.mem_range.mp hi))
/-- bounds of the memory; N bounds all the numbers -/
def zMOk (N : Nat) (m : zMm) : Prop := (∀ i, i < 40 → m 0 137 i < N ∧ m 0 138 i < 16 ∧ m 0 139 i ≤ 6 ∧ ∀ k, k < 6 → m 0 140 (6 * i + k) < 127) ∧ (∀ k, k < 120 → m 0 145 k < N ∧ m 0 146 k < 16) ∧ (∀ b, b < 4 → m 0 133 b ≤ 1 ∧ m 0 136 b ≤ 10 ∧ m 0 135 b ≤ N ∧ m 0 134 b ≤ N) ∧ (∀ s, s < 3 → m 0 141 s ≤ 1 ∧ m 0 143 s ≤ 1 ∧ m 0 144 s ≤ 40 ∧ (m 0 142 s < 4 ∨ m 0 142 s = 4294967295)) ∧ m 509 132 0 ≤ N
/-- a message comes to mailbox b -/
def zAdd (m m' : zMm) (b f : Nat) (T : List Nat) : Prop := zfr [(0, 137), (0, 138), (0, 135), (0, 136), (0, 139), (0, 140)] m m' ∧ m' 0 136 b = m 0 136 b + 1 ∧ m' 0 135 b = m 0 135 b + 1 ∧ (∀ b', b' ≠ b → m' 0 136 b' = m 0 136 b' ∧ m' 0 135 b' = m 0 135 b') ∧ (∀ j, j ≠ 10 * b + m 0 136 b → zsj m m' j) ∧ zmg m' (10 * b + m 0 136 b) = (m 0 135 b, f, T) ∧ m' 0 139 (10 * b + m 0 136 b) ≤ 6 ∧ ∀ k, k < 6 → m' 0 140 (6 * (10 * b + m 0 136 b) + k) < 127
theorem zAdd_bm {m m' : zMm} {b f : Nat} {T : List Nat} {N : Nat} (hok : zMOk N m) (hb : b < 4) (h10 : m 0 136 b < 10) (ha : zAdd m m' b f T) : zbm m' b = zbm m b ++ [(m 0 135 b, f, T)] ∧ ∀ b', b' < 4 → b' ≠ b → zbm m' b' = zbm m b' := by
  obtain ⟨a1, a2, a3, a4, a5, a6, -⟩ := ha
  constructor
  · unfold zbm
    rw [a2, List.range_succ, List.map_append]
    congr 1
    · exact List.map_congr_left fun i hi => by
        have hi := List.mem_range.mp hi
        exact zsj_mg (a5 _ (by omega)) (hok.1 _ (by omega)).2.2.1
    · show [zmg m' (10 * b + m 0 136 b)] = _
      rw [a6]
  · intro b' h4 hne
    have hc := (hok.2.2.1 b' h4).2.1
    exact zbm_eq (a4 b' hne).1 (fun i hi => a5 _ (by omega)) (fun i hi => (hok.1 _ (by omega)).2.2.1)
section
variable {L : Nat} {xs : Nat → Int32} {h : zH} {m : zMm} {c : Nat → Nat}
theorem s130 (hx : zFx h) (hl : zLC m c) {b f : Nat} (hb : b < 4) (h10 : m 0 136 b < 10) : zCl (zPr L xs) 130 [.ref 132, .int (nI b), .int (nI f)] (zMH h m) = some (.inl (some (.int (nI (10 * b + m 0 136 b)))), zMH h (u3 (u3 (u3 (u3 m 0 137 (10 * b + m 0 136 b) (m 0 135 b)) 0 138 (10 * b + m 0 136 b) f) 0 135 b (m 0 135 b + 1)) 0 136 b (m 0 136 b + 1))) := by
  rw [en_130]
  exact p130_0_1 hx hl hb (by omega)
/-- what bring leaves, with the length and the text besides -/
theorem zAdd_mk {m1 m' : zMm} {b f ln : Nat} {T : Nat → Nat} (hln : ln ≤ 6) (e : m1 = u3 (u3 (u3 (u3 (u3 m 0 137 (10 * b + m 0 136 b) (m 0 135 b)) 0 138 (10 * b + m 0 136 b) f) 0 135 b (m 0 135 b + 1)) 0 136 b (m 0 136 b + 1)) 0 139 (10 * b + m 0 136 b) ln) (f1 : zfr [(0, 140)] m1 m') (ht : ∀ q, q / 6 ≠ 10 * b + m 0 136 b → m' 0 140 q = m1 0 140 q) (hT : ∀ k, k < ln → m' 0 140 (6 * (10 * b + m 0 136 b) + k) = T k) (h7 : ∀ k, k < 6 → m' 0 140 (6 * (10 * b + m 0 136 b) + k) < 127) : zAdd m m' b f ((List.range ln).map T) := by
  have F : zfr [(0, 137), (0, 138), (0, 135), (0, 136), (0, 139), (0, 140)] m m1 := by
    rw [e]; exact zfr_u (zfr_u (zfr_u (zfr_u (zfr_u (zfr_rf _ _) (by decide)) (by decide)) (by decide)) (by decide)) (by decide)
  have cn : ∀ i, m' 0 136 i = m1 0 136 i := fun i => f1 _ _ _ (by decide)
  have nx : ∀ i, m' 0 135 i = m1 0 135 i := fun i => f1 _ _ _ (by decide)
  have nu : ∀ i, m' 0 137 i = m1 0 137 i := fun i => f1 _ _ _ (by decide)
  have fl : ∀ i, m' 0 138 i = m1 0 138 i := fun i => f1 _ _ _ (by decide)
  have le : ∀ i, m' 0 139 i = m1 0 139 i := fun i => f1 _ _ _ (by decide)
  refine ⟨zfr_tr F f1 (fun _ q => q) (by decide), ?_, ?_, fun b' hb' => ⟨?_, ?_⟩, fun j hj => ⟨?_, ?_, ?_, fun k hk => ?_⟩, ?_, by rw [le, e, u3_eq]; exact hln, h7⟩
  · rw [cn, e, u3_a (by decide), u3_eq]
  · rw [nx, e, u3_a (by decide), u3_a (by decide), u3_eq]
  · rw [cn, e, u3_a (by decide), u3_i hb', u3_a (by decide), u3_a (by decide), u3_a (by decide)]
  · rw [nx, e, u3_a (by decide), u3_a (by decide), u3_i hb', u3_a (by decide), u3_a (by decide)]
  · rw [nu, e, u3_a (by decide), u3_a (by decide), u3_a (by decide), u3_a (by decide), u3_i hj]
  · rw [fl, e, u3_a (by decide), u3_a (by decide), u3_a (by decide), u3_i hj, u3_a (by decide)]
  · rw [le, e, u3_i hj, u3_a (by decide), u3_a (by decide), u3_a (by decide), u3_a (by decide)]
  · rw [ht _ (by omega), e, u3_a (by decide), u3_a (by decide), u3_a (by decide), u3_a (by decide), u3_a (by decide)]
  · unfold zmg ztx
    have l1 : m' 0 139 (10 * b + m 0 136 b) = ln := by rw [le, e, u3_eq]
    have l2 : m' 0 137 (10 * b + m 0 136 b) = m 0 135 b := by rw [nu, e, u3_a (by decide), u3_a (by decide), u3_a (by decide), u3_a (by decide), u3_eq]
    have l3 : m' 0 138 (10 * b + m 0 136 b) = f := by rw [fl, e, u3_a (by decide), u3_a (by decide), u3_a (by decide), u3_eq]
    rw [l1, l2, l3]
    congr 2
    exact List.map_congr_left fun k hk => hT k (List.mem_range.mp hk)
/-- APPEND -/
theorem s136 (hx : zFx h) (hl : zLC m c) (hb : m 526 132 0 < 4) (h10 : m 0 136 (m 526 132 0) < 10) (hta : m 531 132 0 ≤ 64) (htl : m 532 132 0 ≤ 6) {N : Nat} (hok : zMOk N m) : ∃ m', zCl (zPr L xs) 136 [.ref 132] (zMH h m) = some (.inl none, zMH h m') ∧ zAdd m m' (m 526 132 0) (m 529 132 0) ((List.range (m 532 132 0)).map fun k => c (m 531 132 0 + k)) := by
  rw [en_136]
  have e1 := s130 (L := L) (xs := xs) (f := m 529 132 0) hx hl hb h10
  have hcb : 10 * (m 526 132 0) + m 0 136 (m 526 132 0) < 40 := by omega
  rw [p136_0_1 hx hl e1 hcb]
  let J := 10 * (m 526 132 0) + m 0 136 (m 526 132 0)
  let m1 : zMm := u3 (u3 (u3 (u3 (u3 m 0 137 J (m 0 135 (m 526 132 0))) 0 138 J (m 529 132 0)) 0 135 (m 526 132 0) (m 0 135 (m 526 132 0) + 1)) 0 136 (m 526 132 0) (m 0 136 (m 526 132 0) + 1)) 0 139 J (m 532 132 0)
  have F1 : zfr [(0, 137), (0, 138), (0, 135), (0, 136), (0, 139), (0, 140)] m m1 := zfr_u (zfr_u (zfr_u (zfr_u (zfr_u (zfr_rf _ _) (by decide)) (by decide)) (by decide)) (by decide)) (by decide)
  have hl1 : zLC m1 c := zLC_fr hl F1
  have loop : ∀ (f k : Nat) (m2 : zMm), zfr [(0, 140)] m1 m2 → f + k = m 532 132 0 → (∀ q, q / 6 ≠ J → m2 0 140 q = m1 0 140 q) → (∀ i, i < k → m2 0 140 (6 * J + i) = c (m 531 132 0 + i)) → (∀ i, i < 6 → m2 0 140 (6 * J + i) < 127) → ∃ m', zEv (zPr L xs) 1 136 25 [.val (.ref 132), .val (.int (nI J)), .val (.int (nI k))] [] (zMH h m2) = some (.inl none, zMH h m') ∧ zfr [(0, 140)] m1 m' ∧ (∀ q, q / 6 ≠ J → m' 0 140 q = m1 0 140 q) ∧ (∀ i, i < m 532 132 0 → m' 0 140 (6 * J + i) = c (m 531 132 0 + i)) ∧ (∀ i, i < 6 → m' 0 140 (6 * J + i) < 127) := by
    intro f
    induction f with
    | zero =>
      intro k m2 f2 hk h1 h2 h3
      have tl : m2 532 132 0 = m 532 132 0 := (f2 _ _ _ (by decide)).trans rfl
      exact ⟨m2, p136_25_2 hx (zLC_fr hl1 f2) (by omega) (by omega) (by omega), f2, h1, fun i hi => h2 i (by omega), h3⟩
    | succ f ih =>
      intro k m2 f2 hk h1 h2 h3
      have tl : m2 532 132 0 = m 532 132 0 := (f2 _ _ _ (by decide)).trans rfl
      have ta : m2 531 132 0 = m 531 132 0 := (f2 _ _ _ (by decide)).trans rfl
      have st := p136_25_1 (L := L) (xs := xs) (x1 := J) (x2 := k) hx (zLC_fr hl1 f2) (by omega) (by omega) (by omega) (by omega) (by omega)
      rw [st]
      refine ih (k + 1) _ (zfr_u f2 (by decide)) (by omega) (fun q hq => ?_) (fun i hi => ?_) (fun i hi => ?_)
      · rw [u3_i (by omega)]; exact h1 q hq
      · by_cases q : i = k
        · rw [q, u3_eq, ta]
        · rw [u3_i (by omega)]; exact h2 i (by omega)
      · by_cases q : i = k
        · rw [q, u3_eq]; exact hl.2.2.2 _
        · rw [u3_i (by omega)]; exact h3 i hi
  have tx0 : ∀ i, i < 6 → m1 0 140 (6 * J + i) < 127 := fun i hi => by
    show u3 (u3 (u3 (u3 (u3 m 0 137 J (m 0 135 (m 526 132 0))) 0 138 J (m 529 132 0)) 0 135 (m 526 132 0) (m 0 135 (m 526 132 0) + 1)) 0 136 (m 526 132 0) (m 0 136 (m 526 132 0) + 1)) 0 139 J (m 532 132 0) 0 140 (6 * J + i) < 127
    rw [u3_a (by decide), u3_a (by decide), u3_a (by decide), u3_a (by decide), u3_a (by decide)]
    exact (hok.1 J hcb).2.2.2 i hi
  obtain ⟨m', e, f2, h1, h2, h3⟩ := loop (m 532 132 0) 0 m1 (zfr_rf _ _) (by omega) (fun _ _ => rfl) (fun i hi => absurd hi (Nat.not_lt_zero _)) tx0
  exact ⟨m', e, zAdd_mk (T := fun k => c (m 531 132 0 + k)) htl rfl f2 h1 h2 h3⟩
/-- COPY of one place -/
theorem s135 (hx : zFx h) (hl : zLC m c) {n j N : Nat} (hv : zVB m) (hok : zMOk N m) (hn : 1 ≤ n ∧ n ≤ 40) (hj : zmt m n = some j) (hb : m 526 132 0 < 4) (h10 : m 0 136 (m 526 132 0) < 10) : ∃ m', zCl (zPr L xs) 135 [.ref 132, .int (nI n)] (zMH h m) = some (.inl none, zMH h m') ∧ zAdd m m' (m 526 132 0) (m 0 138 j) (ztx m j) := by
  rw [en_135]
  have e0 := s109 (L := L) (xs := xs) hx hl hv hn
  rw [hj] at e0
  have e1 := s130 (L := L) (xs := xs) (f := m 0 138 j) hx hl hb h10
  have hcb : 10 * (m 526 132 0) + m 0 136 (m 526 132 0) < 40 := by omega
  have hj40 : j < 40 ∧ j < 10 * zsb m + m 0 136 (zsb m) ∧ 10 * zsb m ≤ j := by
    obtain ⟨a1, a2, a3, a4, a5, a6⟩ := hv
    unfold zmt at hj
    have := zfi_some hj
    omega
  have hjne : j ≠ 10 * (m 526 132 0) + m 0 136 (m 526 132 0) := by
    intro q
    by_cases z : zsb m = m 526 132 0
    · rw [z] at hj40; omega
    · have := (hok.2.2.1 _ hv.2.1).2.1
      omega
  rw [p135_0_1 hx hl e0 e1 hj40.1 hcb]
  let J := 10 * (m 526 132 0) + m 0 136 (m 526 132 0)
  have l0 : u3 (u3 (u3 (u3 m 0 137 J (m 0 135 (m 526 132 0))) 0 138 J (m 0 138 j)) 0 135 (m 526 132 0) (m 0 135 (m 526 132 0) + 1)) 0 136 (m 526 132 0) (m 0 136 (m 526 132 0) + 1) 0 139 j = m 0 139 j := by
    rw [u3_a (by decide), u3_a (by decide), u3_a (by decide), u3_a (by decide)]
  rw [l0]
  let m1 : zMm := u3 (u3 (u3 (u3 (u3 m 0 137 J (m 0 135 (m 526 132 0))) 0 138 J (m 0 138 j)) 0 135 (m 526 132 0) (m 0 135 (m 526 132 0) + 1)) 0 136 (m 526 132 0) (m 0 136 (m 526 132 0) + 1)) 0 139 J (m 0 139 j)
  have F1 : zfr [(0, 137), (0, 138), (0, 135), (0, 136), (0, 139), (0, 140)] m m1 := zfr_u (zfr_u (zfr_u (zfr_u (zfr_u (zfr_rf _ _) (by decide)) (by decide)) (by decide)) (by decide)) (by decide)
  have hl1 : zLC m1 c := zLC_fr hl F1
  have tm : ∀ q, m1 0 140 q = m 0 140 q := fun q => by
    show u3 (u3 (u3 (u3 (u3 m 0 137 J (m 0 135 (m 526 132 0))) 0 138 J (m 0 138 j)) 0 135 (m 526 132 0) (m 0 135 (m 526 132 0) + 1)) 0 136 (m 526 132 0) (m 0 136 (m 526 132 0) + 1)) 0 139 J (m 0 139 j) 0 140 q = _
    rw [u3_a (by decide), u3_a (by decide), u3_a (by decide), u3_a (by decide), u3_a (by decide)]
  have loop : ∀ (f k : Nat) (m2 : zMm), zfr [(0, 140)] m1 m2 → f + k = 6 → (∀ q, q / 6 ≠ J → m2 0 140 q = m1 0 140 q) → (∀ i, i < k → m2 0 140 (6 * J + i) = m 0 140 (6 * j + i)) → ∃ m', zEv (zPr L xs) 1 135 36 [.val (.ref 132), .val (.int (nI n)), .val (.int (nI j)), .val (.int (nI J)), .val (.int (nI k))] [] (zMH h m2) = some (.inl none, zMH h m') ∧ zfr [(0, 140)] m1 m' ∧ (∀ q, q / 6 ≠ J → m' 0 140 q = m1 0 140 q) ∧ (∀ i, i < 6 → m' 0 140 (6 * J + i) = m 0 140 (6 * j + i)) := by
    intro f
    induction f with
    | zero =>
      intro k m2 f2 hk h1 h2
      exact ⟨m2, p135_36_2 hx (zLC_fr hl1 f2) (by omega) (by omega), f2, h1, fun i hi => h2 i (by omega)⟩
    | succ f ih =>
      intro k m2 f2 hk h1 h2
      have st := p135_36_1 (L := L) (xs := xs) (w1 := .val (.int (nI n))) (x2 := j) (x3 := J) (x4 := k) hx (zLC_fr hl1 f2) (by omega) (by omega) (by omega) (by omega)
      rw [st]
      refine ih (k + 1) _ (zfr_u f2 (by decide)) (by omega) (fun q hq => ?_) (fun i hi => ?_)
      · rw [u3_i (by omega)]; exact h1 q hq
      · by_cases q : i = k
        · rw [q, u3_eq, h1 _ (by omega), tm]
        · rw [u3_i (by omega)]; exact h2 i (by omega)
  obtain ⟨m', e, f2, h1, h2⟩ := loop 6 0 m1 (zfr_rf _ _) (by omega) (fun _ _ => rfl) (fun i hi => absurd hi (Nat.not_lt_zero _))
  have l6 := (hok.1 j hj40.1).2.2.1
  exact ⟨m', e, zAdd_mk (T := fun k => m 0 140 (6 * j + k)) l6 rfl f2 h1 (fun k hk => h2 k (by omega)) (fun k hk => by rw [h2 k hk]; exact (hok.1 j hj40.1).2.2.2 k hk)⟩
end
