/-! ===== the grammar: what a line of characters c (0 behind its end) says ===== -/
def zCh (c : Nat → Nat) : Prop := (∀ p, 48 ≤ p → c p = 0) ∧ ∀ p, c p < 127
def zLC (m : zMm) (c : Nat → Nat) : Prop := zLn m ∧ (∀ p, zlk m p = c p) ∧ zCh c
theorem zLC_b {m : zMm} {c : Nat → Nat} (h : zLC m c) (p : Nat) : c p < 2147483648 := by
  have := h.2.2.2 p; omega
theorem zbit_b (x : Nat) : zbit x < 2147483648 := by
  unfold zbit
  repeat' split
  all_goals omega
theorem s91c {L : Nat} {xs : Nat → Int32} {h : zH} {m : zMm} {c : Nat → Nat} (hx : zFx h) (hl : zLC m c) (p : Nat) (hp : p < 2147483648) : zCl (zPr L xs) 91 [.ref 132, .int (nI p)] (zMH h m) = some (.inl (some (.int (nI (c p)))), zMH h m) := by
  rw [← hl.2.1 p]; exact s91 hx hl.1 p hp
/-- the memory but for some cells -/
def zfr (l : List (Nat × Nat)) (m m' : zMm) : Prop := ∀ g a i, (g, a) ∉ l → m' g a i = m g a i
theorem zfr_rf (l : List (Nat × Nat)) (m : zMm) : zfr l m m := fun _ _ _ _ => rfl
theorem zfr_u {l : List (Nat × Nat)} {m m' : zMm} (h : zfr l m m') {g a i x : Nat} (hm : (g, a) ∈ l) : zfr l m (u3 m' g a i x) := fun g' a' i' hn => by
  rw [← h g' a' i' hn]
  exact if_neg fun q => hn (by rw [q.1, q.2.1]; exact hm)
theorem zfr_tr {l l1 l2 : List (Nat × Nat)} {m m1 m2 : zMm} (h1 : zfr l1 m m1) (h2 : zfr l2 m1 m2) (s1 : ∀ q ∈ l1, q ∈ l) (s2 : ∀ q ∈ l2, q ∈ l) : zfr l m m2 := fun g a i hn => (h2 g a i fun q => hn (s2 _ q)).trans (h1 g a i fun q => hn (s1 _ q))
theorem zfr_w {l l1 : List (Nat × Nat)} {m m1 : zMm} (h1 : zfr l1 m m1) (s1 : ∀ q ∈ l1, q ∈ l) : zfr l m m1 := fun g a i hn => h1 g a i fun q => hn (s1 _ q)
theorem zLC_fr {l : List (Nat × Nat)} {m m' : zMm} {c : Nat → Nat} (h : zLC m c) (hf : zfr l m m') (h1 : (520, 132) ∉ l := by decide) (h2 : (0, 147) ∉ l := by decide) (h3 : (0, 148) ∉ l := by decide) : zLC m' c := by
  obtain ⟨⟨a1, a2⟩, b, d⟩ := h
  have e1 : m' 520 132 0 = m 520 132 0 := hf _ _ _ h1
  refine ⟨⟨by rw [e1]; exact a1, by rw [e1, hf _ _ _ h3]; exact a2⟩, fun p => ?_, d⟩
  rw [← b p]
  unfold zlk
  rw [e1, hf _ _ _ h3, hf _ _ _ h2]
/-- the end of a run of characters -/
def zrn (f : Nat → Bool) (c : Nat → Nat) : Nat → Nat → Nat
  | 0, p => p
  | n + 1, p => if f (c p) = true then zrn f c n (p + 1) else p
def zre (f : Nat → Bool) (c : Nat → Nat) (p : Nat) : Nat := zrn f c (64 - p) p
theorem zre_t {f : Nat → Bool} {c : Nat → Nat} {p : Nat} (hc : zCh c) (h0 : f 0 = false) (h : f (c p) = true) : zre f c p = zre f c (p + 1) := by
  have hp : p < 48 := Nat.lt_of_not_le fun q => by rw [hc.1 p q, h0] at h; cases h
  unfold zre
  rw [show 64 - p = (64 - (p + 1)) + 1 by omega]
  show (if f (c p) = true then zrn f c (64 - (p + 1)) (p + 1) else p) = _
  rw [if_pos h]
theorem zre_f {f : Nat → Bool} {c : Nat → Nat} {p : Nat} (h : f (c p) = false) : zre f c p = p := by
  unfold zre
  cases 64 - p with
  | zero => rfl
  | succ n => show (if f (c p) = true then _ else p) = p; rw [h]; rfl
theorem zre_lt {f : Nat → Bool} {c : Nat → Nat} {p : Nat} (hc : zCh c) (h0 : f 0 = false) (h : f (c p) = true) : p < 48 := Nat.lt_of_not_le fun q => by rw [hc.1 p q, h0] at h; cases h
/-- induction along a run -/
theorem zrun_ind {f : Nat → Bool} {c : Nat → Nat} (hc : zCh c) (h0 : f 0 = false) {C : Nat → Prop} (hs : ∀ p, f (c p) = true → p < 48 → C (p + 1) → C p) (he : ∀ p, f (c p) = false → C p) : ∀ p, C p := by
  have : ∀ k p, 64 - p = k → C p := by
    intro k
    induction k with
    | zero =>
      intro p hp
      exact he p (by rw [hc.1 p (by omega)]; exact h0)
    | succ k ih =>
      intro p hp
      cases h : f (c p) with
      | false => exact he p h
      | true => exact hs p h (zre_lt hc h0 h) (ih (p + 1) (by omega))
  exact fun p => this _ p rfl
theorem zre_ge {f : Nat → Bool} {c : Nat → Nat} (hc : zCh c) (h0 : f 0 = false) : ∀ p, p ≤ zre f c p ∧ (p ≤ 48 → zre f c p ≤ 48) ∧ f (c (zre f c p)) = false := by
  refine zrun_ind hc h0 ?_ ?_
  · intro p h hp ih
    rw [zre_t hc h0 h]
    exact ⟨by omega, fun _ => ih.2.1 (by omega), ih.2.2⟩
  · intro p h
    rw [zre_f h]
    exact ⟨Nat.le_refl _, fun q => q, h⟩
/-- digits' value -/
def zdv (c : Nat → Nat) : Nat → Nat → Nat → Nat
  | 0, _, v => v
  | n + 1, p, v => zdv c n (p + 1) (10 * v + c p - 48)
/-- a point: * (none) or a number, and where it ends -/
def zpt (c : Nat → Nat) (p : Nat) : Option (Option Nat × Nat) := if c p = 42 then some (none, p + 1) else if p < zre zdig c p ∧ zre zdig c p - p ≤ 3 then some (some (zdv c (zre zdig c p - p) p 0), zre zdig c p) else none
abbrev zRg : Type := Option Nat × Option Nat
/-- a range, where it ends -/
def zrg (c : Nat → Nat) (p : Nat) : Option (zRg × Nat) := match zpt c p with
  | none => none
  | some (a, e) => if c e = 58 then (match zpt c (e + 1) with
    | none => none
    | some (b, e2) => some ((a, b), e2)) else some ((a, a), e)
def zset (c : Nat → Nat) : Nat → Nat → Option (List zRg × Nat)
  | 0, _ => none
  | f + 1, p => match zrg c p with
    | none => none
    | some (r, e) => if c e = 44 then (match zset c f (e + 1) with
      | none => none
      | some (l, e2) => some (r :: l, e2)) else some ([r], e)
def zrin (r : zRg) (v last : Nat) : Bool := let a := r.1.getD last; let b := r.2.getD last; if a < b then decide (a ≤ v ∧ v ≤ b) else decide (b ≤ v ∧ v ≤ a)
def zrsin (l : List zRg) (v last : Nat) : Bool := l.any fun r => zrin r v last
/-- a point out of the places 1 .. n -/
def zpw (n : Nat) (a : Option Nat) : Bool := match a with
  | none => false
  | some v => decide (v < 1 ∨ n < v)
def zrsw (l : List zRg) (n : Nat) : Bool := decide (n = 0) || l.any fun r => zpw n r.1 || zpw n r.2
theorem zpt_ge {c : Nat → Nat} (hc : zCh c) {p : Nat} {a : Option Nat} {e : Nat} (h : zpt c p = some (a, e)) : p < e ∧ (p ≤ 48 → e ≤ 48) ∧ ∀ v, a = some v → v < 10000 := by
  have hd0 : zdig 0 = false := rfl
  unfold zpt at h
  split at h
  · rename_i h1
    injection h with h; injection h with e1 e2
    subst e1; subst e2
    refine ⟨by omega, fun q => ?_, fun v hv => by cases hv⟩
    have : p < 48 := Nat.lt_of_not_le fun q => by rw [hc.1 p q] at h1; cases h1
    omega
  · split at h
    · rename_i h1 h2
      injection h with h; injection h with e1 e2
      subst e1; subst e2
      have h3 := zre_ge hc hd0 p
      refine ⟨h2.1, h3.2.1, fun v hv => ?_⟩
      injection hv with hv
      subst hv
      have h4 := h2.2
      generalize zre zdig c p - p = k at h4
      have b0 := hc.2 p
      have b1 := hc.2 (p + 1)
      have b2 := hc.2 (p + 1 + 1)
      rcases (by omega : k = 0 ∨ k = 1 ∨ k = 2 ∨ k = 3) with rfl | rfl | rfl | rfl
      · show 0 < 10000; omega
      · show 10 * 0 + c p - 48 < 10000; omega
      · show 10 * (10 * 0 + c p - 48) + c (p + 1) - 48 < 10000; omega
      · show 10 * (10 * (10 * 0 + c p - 48) + c (p + 1) - 48) + c (p + 1 + 1) - 48 < 10000; omega
    · cases h
theorem zrg_ge {c : Nat → Nat} (hc : zCh c) {p : Nat} {r : zRg} {e : Nat} (h : zrg c p = some (r, e)) : p < e ∧ (p ≤ 48 → e ≤ 48) ∧ (∀ v, r.1 = some v → v < 10000) ∧ ∀ v, r.2 = some v → v < 10000 := by
  unfold zrg at h
  cases h1 : zpt c p with
  | none => rw [h1] at h; cases h
  | some q =>
    obtain ⟨a, e1⟩ := q
    rw [h1] at h
    have g1 := zpt_ge hc h1
    dsimp only at h
    split at h
    · rename_i h58
      cases h2 : zpt c (e1 + 1) with
      | none => rw [h2] at h; cases h
      | some q2 =>
        obtain ⟨b, e2⟩ := q2
        rw [h2] at h
        have g2 := zpt_ge hc h2
        injection h with h; injection h with a1 a2
        subst a1; subst a2
        have : e1 < 48 := Nat.lt_of_not_le fun q => by rw [hc.1 e1 q] at h58; cases h58
        exact ⟨by omega, fun q => g2.2.1 (by omega), g1.2.2, g2.2.2⟩
    · injection h with h; injection h with a1 a2
      subst a1; subst a2
      exact ⟨g1.1, g1.2.1, g1.2.2, g1.2.2⟩
theorem zset_ge {c : Nat → Nat} (hc : zCh c) : ∀ f p l e, zset c f p = some (l, e) → p < e ∧ (p ≤ 48 → e ≤ 48) := by
  intro f
  induction f with
  | zero => intro p l e h; cases h
  | succ f ih =>
    intro p l e h
    unfold zset at h
    cases h1 : zrg c p with
    | none => rw [h1] at h; cases h
    | some q =>
      obtain ⟨r, e1⟩ := q
      rw [h1] at h
      have g1 := zrg_ge hc h1
      dsimp only at h
      split at h
      · rename_i h44
        cases h2 : zset c f (e1 + 1) with
        | none => rw [h2] at h; cases h
        | some q2 =>
          obtain ⟨l2, e2⟩ := q2
          rw [h2] at h
          injection h with h; injection h with a1 a2
          subst a2
          have g2 := ih _ _ _ h2
          have : e1 < 48 := Nat.lt_of_not_le fun q => by rw [hc.1 e1 q] at h44; cases h44
          exact ⟨by omega, fun q => g2.2 (by omega)⟩
      · injection h with h; injection h with a1 a2
        subst a2
        exact ⟨g1.1, g1.2.1⟩
