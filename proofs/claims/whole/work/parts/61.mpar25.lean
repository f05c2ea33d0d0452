/-! ===== the reference and the abstract state ===== -/
def zrp (m : zMm) (s : Nat) : List Nat := (List.range (m 0 150 s)).map fun i => m 0 149 (2048 * s + i)
def zln (m : zMm) (s : Nat) : List Nat := (List.range (m 0 148 s)).map fun i => m 0 147 (48 * s + i)
def zsq (m : zMm) (s : Nat) : Option (Nat × Bool) := if m 0 142 s < 4 then some (m 0 142 s, decide (m 0 143 s ≠ 0)) else none
def zss (m : zMm) (s : Nat) : zSs := (decide (m 0 141 s ≠ 0), zsq m s, zvw m s, zrp m s, zln m s)
def zRb (m : zMm) (A : zAS) : Prop := (∀ b, b < 4 → zbx m b = A.1 b) ∧ (∀ s, s < 3 → zss m s = A.2.1 s) ∧ m 509 132 0 = A.2.2
theorem zss_fr {l : List (Nat × Nat)} {m m' : zMm} (hf : zfr l m m') (s : Nat) (h0 : ∀ q ∈ l, q ≠ (0, 141) ∧ q ≠ (0, 142) ∧ q ≠ (0, 143) ∧ q ≠ (0, 144) ∧ q ≠ (0, 145) ∧ q ≠ (0, 146) ∧ q ≠ (0, 149) ∧ q ≠ (0, 150) ∧ q ≠ (0, 147) ∧ q ≠ (0, 148) := by decide) : zss m' s = zss m s := by
  have e1 : ∀ i, m' 0 141 i = m 0 141 i := fun i => hf _ _ _ fun q => (h0 _ q).1 rfl
  have e2 : ∀ i, m' 0 142 i = m 0 142 i := fun i => hf _ _ _ fun q => (h0 _ q).2.1 rfl
  have e3 : ∀ i, m' 0 143 i = m 0 143 i := fun i => hf _ _ _ fun q => (h0 _ q).2.2.1 rfl
  have e4 : ∀ i, m' 0 144 i = m 0 144 i := fun i => hf _ _ _ fun q => (h0 _ q).2.2.2.1 rfl
  have e5 : ∀ i, m' 0 145 i = m 0 145 i := fun i => hf _ _ _ fun q => (h0 _ q).2.2.2.2.1 rfl
  have e6 : ∀ i, m' 0 146 i = m 0 146 i := fun i => hf _ _ _ fun q => (h0 _ q).2.2.2.2.2.1 rfl
  have e7 : ∀ i, m' 0 149 i = m 0 149 i := fun i => hf _ _ _ fun q => (h0 _ q).2.2.2.2.2.2.1 rfl
  have e8 : ∀ i, m' 0 150 i = m 0 150 i := fun i => hf _ _ _ fun q => (h0 _ q).2.2.2.2.2.2.2.1 rfl
  have e9 : ∀ i, m' 0 147 i = m 0 147 i := fun i => hf _ _ _ fun q => (h0 _ q).2.2.2.2.2.2.2.2.1 rfl
  have e10 : ∀ i, m' 0 148 i = m 0 148 i := fun i => hf _ _ _ fun q => (h0 _ q).2.2.2.2.2.2.2.2.2 rfl
  unfold zss zsq zvw zrp zln
  simp only [e1, e2, e3, e4, e5, e6, e7, e8, e9, e10]
theorem zbx_fr {l : List (Nat × Nat)} {m m' : zMm} (hf : zfr l m m') (b : Nat) (h0 : ∀ q ∈ l, q ≠ (0, 133) ∧ q ≠ (0, 134) ∧ q ≠ (0, 135) ∧ q ≠ (0, 136) ∧ q ≠ (0, 137) ∧ q ≠ (0, 138) ∧ q ≠ (0, 139) ∧ q ≠ (0, 140) := by decide) : zbx m' b = zbx m b := by
  have e1 : ∀ i, m' 0 133 i = m 0 133 i := fun i => hf _ _ _ fun q => (h0 _ q).1 rfl
  have e2 : ∀ i, m' 0 134 i = m 0 134 i := fun i => hf _ _ _ fun q => (h0 _ q).2.1 rfl
  have e3 : ∀ i, m' 0 135 i = m 0 135 i := fun i => hf _ _ _ fun q => (h0 _ q).2.2.1 rfl
  have e4 : ∀ i, m' 0 136 i = m 0 136 i := fun i => hf _ _ _ fun q => (h0 _ q).2.2.2.1 rfl
  have e5 : ∀ i, m' 0 137 i = m 0 137 i := fun i => hf _ _ _ fun q => (h0 _ q).2.2.2.2.1 rfl
  have e6 : ∀ i, m' 0 138 i = m 0 138 i := fun i => hf _ _ _ fun q => (h0 _ q).2.2.2.2.2.1 rfl
  have e7 : ∀ i, m' 0 139 i = m 0 139 i := fun i => hf _ _ _ fun q => (h0 _ q).2.2.2.2.2.2.1 rfl
  have e8 : ∀ i, m' 0 140 i = m 0 140 i := fun i => hf _ _ _ fun q => (h0 _ q).2.2.2.2.2.2.2 rfl
  unfold zbx zbm zmg ztx
  simp only [e1, e2, e3, e4, e5, e6, e7, e8]
theorem zRb_B {m m' : zMm} {A : zAS} (h : zRb m A) {b : Nat} {B : zBx} (h1 : ∀ b', b' < 4 → b' ≠ b → zbx m' b' = zbx m b') (h2 : b < 4 → zbx m' b = B) (h3 : ∀ s, s < 3 → zss m' s = zss m s) (h4 : m' 509 132 0 = m 509 132 0) : zRb m' (zsB A b B) := by
  refine ⟨fun b' hb => ?_, fun s hs => (h3 s hs).trans (h.2.1 s hs), h4.trans h.2.2⟩
  by_cases q : b' = b
  · rw [q] at hb ⊢; exact (h2 hb).trans (zup_eq _ _ _).symm
  · exact (h1 b' hb q).trans ((h.1 b' hb).trans (zup_ne q).symm)
theorem zRb_S {m m' : zMm} {A : zAS} (h : zRb m A) {s : Nat} {S : zSs} (h1 : ∀ s', s' < 3 → s' ≠ s → zss m' s' = zss m s') (h2 : s < 3 → zss m' s = S) (h3 : ∀ b, b < 4 → zbx m' b = zbx m b) (h4 : m' 509 132 0 = m 509 132 0) : zRb m' (zsS A s S) := by
  refine ⟨fun b hb => (h3 b hb).trans (h.1 b hb), fun s' hs => ?_, h4.trans h.2.2⟩
  by_cases q : s' = s
  · rw [q] at hs ⊢; exact (h2 hs).trans (zup_eq _ _ _).symm
  · exact (h1 s' hs q).trans ((h.2.1 s' hs).trans (zup_ne q).symm)
theorem zRb_M {m : zMm} {A : zAS} (h : zRb m A) {b : Nat} (hb : b < 4) : zbm m b = zaM A b := congrArg (fun B : zBx => B.2.2.2) (h.1 b hb)
theorem zRb_x {m : zMm} {A : zAS} (h : zRb m A) {b : Nat} (hb : b < 4) : m 0 133 b = (A.1 b).1 ∧ m 0 134 b = (A.1 b).2.1 ∧ m 0 135 b = (A.1 b).2.2.1 ∧ m 0 136 b = (zaM A b).length := by
  refine ⟨congrArg (fun B : zBx => B.1) (h.1 b hb), congrArg (fun B : zBx => B.2.1) (h.1 b hb), congrArg (fun B : zBx => B.2.2.1) (h.1 b hb), ?_⟩
  rw [← zRb_M h hb]
  unfold zbm
  rw [List.length_map, List.length_range]
theorem zRb_s {m : zMm} {A : zAS} (h : zRb m A) {s : Nat} (hs : s < 3) : decide (m 0 141 s ≠ 0) = zaC A s ∧ zsq m s = zaQ A s ∧ zvw m s = zaV A s ∧ zrp m s = zaT A s ∧ zln m s = zaL A s := ⟨congrArg (fun S : zSs => S.1) (h.2.1 s hs), congrArg (fun S : zSs => S.2.1) (h.2.1 s hs), congrArg (fun S : zSs => S.2.2.1) (h.2.1 s hs), congrArg (fun S : zSs => S.2.2.2.1) (h.2.1 s hs), congrArg (fun S : zSs => S.2.2.2.2) (h.2.1 s hs)⟩
theorem zln_len {m : zMm} {s : Nat} : (zln m s).length = m 0 148 s := by unfold zln; rw [List.length_map, List.length_range]
theorem zrp_len {m : zMm} {s : Nat} : (zrp m s).length = m 0 150 s := by unfold zrp; rw [List.length_map, List.length_range]
theorem zRb_nil {m : zMm} {l : List (Nat × Nat)} {m' : zMm} {A : zAS} (h : zRb m A) (hf : zfr l m m') (h0 : ∀ q ∈ l, q ≠ (0, 141) ∧ q ≠ (0, 142) ∧ q ≠ (0, 143) ∧ q ≠ (0, 144) ∧ q ≠ (0, 145) ∧ q ≠ (0, 146) ∧ q ≠ (0, 149) ∧ q ≠ (0, 150) ∧ q ≠ (0, 147) ∧ q ≠ (0, 148) := by decide) (h1 : ∀ q ∈ l, q ≠ (0, 133) ∧ q ≠ (0, 134) ∧ q ≠ (0, 135) ∧ q ≠ (0, 136) ∧ q ≠ (0, 137) ∧ q ≠ (0, 138) ∧ q ≠ (0, 139) ∧ q ≠ (0, 140) := by decide) (h2 : ∀ q ∈ l, q ≠ (509, 132) := by decide) : zRb m' A := ⟨fun b hb => (zbx_fr hf b h1).trans (h.1 b hb), fun s hs => (zss_fr hf s h0).trans (h.2.1 s hs), (hf _ _ _ fun q => h2 _ q rfl).trans h.2.2⟩
theorem zMOk_nil {m : zMm} {l : List (Nat × Nat)} {m' : zMm} {N : Nat} (h : zMOk N m) (hf : zfr l m m') (h0 : ∀ q ∈ l, q ≠ (0, 141) ∧ q ≠ (0, 142) ∧ q ≠ (0, 143) ∧ q ≠ (0, 144) ∧ q ≠ (0, 145) ∧ q ≠ (0, 146) := by decide) (h1 : ∀ q ∈ l, q ≠ (0, 133) ∧ q ≠ (0, 134) ∧ q ≠ (0, 135) ∧ q ≠ (0, 136) ∧ q ≠ (0, 137) ∧ q ≠ (0, 138) ∧ q ≠ (0, 139) ∧ q ≠ (0, 140) := by decide) (h2 : ∀ q ∈ l, q ≠ (509, 132) := by decide) : zMOk N m' := by
  have e1 : ∀ i, m' 0 141 i = m 0 141 i := fun i => hf _ _ _ fun q => (h0 _ q).1 rfl
  have e2 : ∀ i, m' 0 142 i = m 0 142 i := fun i => hf _ _ _ fun q => (h0 _ q).2.1 rfl
  have e3 : ∀ i, m' 0 143 i = m 0 143 i := fun i => hf _ _ _ fun q => (h0 _ q).2.2.1 rfl
  have e4 : ∀ i, m' 0 144 i = m 0 144 i := fun i => hf _ _ _ fun q => (h0 _ q).2.2.2.1 rfl
  have e5 : ∀ i, m' 0 145 i = m 0 145 i := fun i => hf _ _ _ fun q => (h0 _ q).2.2.2.2.1 rfl
  have e6 : ∀ i, m' 0 146 i = m 0 146 i := fun i => hf _ _ _ fun q => (h0 _ q).2.2.2.2.2 rfl
  have f1 : ∀ i, m' 0 133 i = m 0 133 i := fun i => hf _ _ _ fun q => (h1 _ q).1 rfl
  have f2 : ∀ i, m' 0 134 i = m 0 134 i := fun i => hf _ _ _ fun q => (h1 _ q).2.1 rfl
  have f3 : ∀ i, m' 0 135 i = m 0 135 i := fun i => hf _ _ _ fun q => (h1 _ q).2.2.1 rfl
  have f4 : ∀ i, m' 0 136 i = m 0 136 i := fun i => hf _ _ _ fun q => (h1 _ q).2.2.2.1 rfl
  have f5 : ∀ i, m' 0 137 i = m 0 137 i := fun i => hf _ _ _ fun q => (h1 _ q).2.2.2.2.1 rfl
  have f6 : ∀ i, m' 0 138 i = m 0 138 i := fun i => hf _ _ _ fun q => (h1 _ q).2.2.2.2.2.1 rfl
  have f7 : ∀ i, m' 0 139 i = m 0 139 i := fun i => hf _ _ _ fun q => (h1 _ q).2.2.2.2.2.2.1 rfl
  have f8 : ∀ i, m' 0 140 i = m 0 140 i := fun i => hf _ _ _ fun q => (h1 _ q).2.2.2.2.2.2.2 rfl
  have g : m' 509 132 0 = m 509 132 0 := hf _ _ _ fun q => h2 _ q rfl
  unfold zMOk
  simp only [e1, e2, e3, e4, e5, e6, f1, f2, f3, f4, f5, f6, f7, f8, g]
  exact h
/-- what is kept says the two rising orders of the memory -/
theorem zUp_of {m : zMm} {A : zAS} {K : Nat} (h : zRb m A) (hi : zAI K A) : zUp m := by
  intro b hb
  have I := hi.1 b hb
  have X := zRb_x h hb
  have M := zRb_M h hb
  have I1 : ((zaM A b).map fun g => g.1).Pairwise (· < ·) := I.1
  have ge : ∀ p (hp : p < m 0 136 b), (zaM A b)[p]? = some (zmg m (10 * b + p)) := by
    intro p hp
    rw [← M]
    unfold zbm
    rw [List.getElem?_map, List.getElem?_range hp]
    rfl
  refine ⟨fun p q hpq hq => ?_, fun p hp => ?_⟩
  · have := (List.pairwise_iff_getElem.1 I1) p q (by rw [List.length_map, ← X.2.2.2]; omega) (by rw [List.length_map, ← X.2.2.2]; omega) hpq
    rw [List.getElem_map, List.getElem_map] at this
    have g1 := ge p (by omega)
    have g2 := ge q hq
    rw [List.getElem?_eq_getElem (by rw [← X.2.2.2]; omega), Option.some.injEq] at g1 g2
    rw [g1, g2] at this
    exact this
  · rw [X.2.2.1]
    exact I.2.1 _ (List.mem_of_getElem? (ge p hp))
theorem zVu_of {m : zMm} {A : zAS} {K : Nat} (h : zRb m A) (hi : zAI K A) : zVu m := by
  intro s hs hsel
  have I := hi.2.1 s hs
  obtain ⟨-, q1, q2, -, -⟩ := zRb_s h hs
  have ql : (zaV A s).length = m 0 144 s := by rw [← q2]; exact zvw_len
  have ge : ∀ p (hp : p < m 0 144 s), (zaV A s)[p]? = some (m 0 145 (40 * s + p), m 0 146 (40 * s + p)) := by
    intro p hp
    rw [← q2, zvw_get, if_pos hp]
  have i3 := I.2.2
  rw [← q1] at i3
  unfold zsq at i3
  rw [if_pos hsel] at i3
  refine ⟨fun p q hpq hq => ?_, fun p hp => ?_⟩
  · have := (List.pairwise_iff_getElem.1 I.1) p q (by rw [List.length_map, ql]; omega) (by rw [List.length_map, ql]; omega) hpq
    rw [List.getElem_map, List.getElem_map] at this
    have g1 := ge p (by omega)
    have g2 := ge q hq
    rw [List.getElem?_eq_getElem (by rw [ql]; omega), Option.some.injEq] at g1 g2
    rw [g1, g2] at this
    exact this
  · rw [(zRb_x h hsel).2.2.1]
    exact i3.2.2.1 _ (List.mem_of_getElem? (ge p hp))
