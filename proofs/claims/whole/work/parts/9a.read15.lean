/-! ===== the class's reader: a command ===== -/
theorem zRf_new (p : Nat) (h : zH) (t n k : Nat) : zRf p 1 k h (zNew h t n k) := by
  have ne : ∀ {a}, a < zN h → a ≠ zN h := fun z => Nat.ne_of_lt z
  exact ⟨⟨Nat.le_succ _, Nat.le_refl _, Nat.le_refl _⟩, fun a ha => ⟨if_neg (ne ha), if_neg (ne ha)⟩, fun _ _ _ ha _ => if_neg (ne ha), fun _ _ _ ha => ⟨if_neg (ne ha), if_neg (ne ha)⟩⟩
theorem zRr_new {h : zH} {p s len a t n k : Nat} {bd wr : Bool} (r : zRr h p s len a bd wr) : zRr (zNew h t n k) p s len a bd wr := by
  obtain ⟨⟨⟨a1, a2⟩, a3, a4⟩, r1, r2, r3, r4, r5, r6⟩ := r
  have ne : p ≠ zN h := Nat.ne_of_lt a2
  exact ⟨⟨⟨a1, Nat.lt_succ_of_lt a2⟩, (if_neg ne).trans a3, a4⟩, (if_neg ne).trans r1, (if_neg ne).trans r2, (if_neg ne).trans r3, (if_neg ne).trans r4, (if_neg ne).trans r5, (if_neg ne).trans r6⟩
theorem zRf_q {h h' : zH} {p q c k : Nat} (f : zRf p c k h h') (hq : q < zN h) (ne : q ≠ p) : (∀ g, zI h' g q 0 = zI h g q 0) ∧ (∀ g, zR h' g q 0 = zR h g q 0) ∧ ∀ g, zL h' g q 0 = zL h g q 0 := ⟨fun g => f.2.2.1 g q 0 hq (Or.inl ne), fun g => (f.2.2.2 g q 0 hq).1, fun g => (f.2.2.2 g q 0 hq).2⟩
theorem zfn_t {c : Nat → Nat} : ∀ f b, zfn (zLt true) c f b = zfn ztg c f b
  | 0, _ => rfl
  | f + 1, b => by
    have e : zLt true (c b) = ztg (c b) := by
      unfold zLt ztg zsml zdig
      rw [Bool.true_and]
    unfold zfn
    rw [e, zfn_t f (b + 1)]
/-- the tag -/
theorem ztag {c : Nat → Nat} (hc : zCh c) {n : Nat} {b : Bool} (hn : zfn (zLt true) c 2 0 = n) (hb : ((false || decide (n = 0)) || !decide (c (0 + n) = 32)) = b) : (b = false → n = zre ztg c 0 ∧ (1 ≤ zre ztg c 0 ∧ zre ztg c 0 ≤ 2 ∧ c (zre ztg c 0) = 32)) ∧ (b = true → zhead c = none) := by
  rw [zfn_t, zfn_re hc rfl] at hn
  have ge := (zre_ge (f := ztg) hc rfl 0).1
  rw [Nat.zero_add] at hb
  constructor
  · intro e
    rw [e, Bool.or_eq_false_iff, Bool.or_eq_false_iff] at hb
    have h0 := of_decide_eq_false hb.1.2
    have h1 : c n = 32 := by
      have := hb.2
      cases z : decide (c n = 32) with
      | true => exact of_decide_eq_true z
      | false => rw [z] at this; cases this
    by_cases q : 2 ≤ zre ztg c 0 - 0
    · rw [if_pos q] at hn
      by_cases q2 : 2 = zre ztg c 0
      · exact ⟨by omega, by omega, by omega, by rw [← q2, hn]; exact h1⟩
      · have := zre_all (f := ztg) hc rfl 0 2 (by omega)
        rw [show 0 + 2 = n by omega, h1] at this
        cases this
    · rw [if_neg q] at hn
      have e : n = zre ztg c 0 := by omega
      exact ⟨e, by omega, by omega, e ▸ h1⟩
  · intro e
    unfold zhead
    refine if_neg fun ⟨z1, z2, z3⟩ => ?_
    have en : n = zre ztg c 0 := by
      rw [← hn]
      split <;> omega
    rw [en, z3, decide_eq_false (show ¬ zre ztg c 0 = 0 by omega), e] at hb
    cases hb
/-- the verb -/
theorem zverb {c : Nat → Nat} (hc : zCh c) {E : zEnv} {len t a : Nat} {u : Bool} (ht : zre ztg c 0 = t) (h1 : 1 ≤ t ∧ t ≤ 2 ∧ c t = 32) (hu : zmw c (t + 1) [85, 73, 68, 32] = u) (ha : (if u = true then t + 1 + 4 else t + 1) = a) : match zvb c a with
    | none => zread c E len = none
    | some v => (v < 4 ∧ zlrg (c (a + (zVl v).length)) = true ∧ zread c E len = none) ∨ ((4 ≤ v → c (a + (zVl v).length) = 32) ∧ zread c E len = if u = true ∧ v < 9 then none else match zrest c E u (v + 1) (a + (zVl v).length) with
      | none => none
      | some (e, x) => if e = len then some (v + 1, u, t, x) else none) := by
  have hh : zhead c = if zwn c (t + 1) = 22854762496 then (if c (zre zlrg c (t + 1)) = 32 then some (true, zwn c (zre zlrg c (t + 1) + 1), zre zlrg c (zre zlrg c (t + 1) + 1)) else none) else some (false, zwn c (t + 1), zre zlrg c (t + 1)) := by
    unfold zhead
    rw [ht, if_pos h1]
  have wu := zwd [85, 73, 68] rfl
  have z32 := zw_32 hc (a := t + 1) wu
  rw [show [85, 73, 68] ++ [32] = [85, 73, 68, 32] from rfl, hu, zens.2.2.2.2.2] at z32
  have hd : zhead c = some (u, zwn c a, zre zlrg c a) ∨ (zhead c = none ∧ zcmd (zwn c a) = 0 ∧ (∀ v, 4 ≤ v → zcmd (zwn c a) ≠ v + 1)) := by
    cases u with
    | true =>
      obtain ⟨x1, x2, x3⟩ := z32.1 rfl
      rw [if_pos rfl] at ha
      rw [x1, if_pos rfl, if_pos x3, x2] at hh
      rw [← ha]
      exact Or.inl hh
    | false =>
      rw [if_neg Bool.noConfusion] at ha
      rw [← ha]
      by_cases e : zwn c (t + 1) = 22854762496
      · rw [if_pos e, if_neg (z32.2 rfl e)] at hh
        exact Or.inr ⟨hh, by rw [e]; rfl, fun v hv z => by rw [e] at z; cases z⟩
      · rw [if_neg e] at hh
        exact Or.inl hh
  cases hv : zvb c a with
  | none =>
    show zread c E len = none
    unfold zread
    rcases hd with hd | hd
    · rw [hd]
      dsimp only
      rcases zvb_no hc hv with z | ⟨z1, z2⟩
      · rw [if_pos (Or.inl z)]
      · split
        · rfl
        · have zr : zrest c E u (zcmd (zwn c a)) (zre zlrg c a) = none := by
            unfold zrest
            rw [if_neg (by omega), if_neg z2]
          rw [zr]
    · rw [hd.1]
  | some v =>
    obtain ⟨v1, v2, v3, v4⟩ := zvb_cmd hc hv
    have good : zhead c = some (u, zwn c a, zre zlrg c a) → zcmd (zwn c a) = v + 1 → zre zlrg c a = a + (zVl v).length → zread c E len = if u = true ∧ v < 9 then none else match zrest c E u (v + 1) (a + (zVl v).length) with
      | none => none
      | some (e, x) => if e = len then some (v + 1, u, t, x) else none := fun e1 e2 e3 => by
      unfold zread
      rw [e1]
      dsimp only
      rw [e2, e3, ht]
      by_cases q : u = true ∧ v < 9
      · rw [if_pos q, if_pos (Or.inr ⟨q.1, by omega⟩)]
      · rw [if_neg q, if_neg (fun z => z.elim (by omega) fun z => q ⟨z.1, by omega⟩)]
        rfl
    show _ ∨ _
    by_cases l4 : v < 4
    · cases zl : zlrg (c (a + (zVl v).length)) with
      | true =>
        refine Or.inl ⟨l4, rfl, ?_⟩
        have z := (v4 l4).2 zl
        unfold zread
        rcases hd with hd | hd
        · rw [hd]
          dsimp only
          rw [if_pos (Or.inl z)]
        · rw [hd.1]
      | false =>
        obtain ⟨z1, z2⟩ := (v4 l4).1 zl
        rcases hd with hd | hd
        · exact Or.inr ⟨fun z => by omega, good hd z1 z2⟩
        · rw [z1] at hd
          omega
    · obtain ⟨z1, z2, z3⟩ := v3 (by omega)
      rcases hd with hd | hd
      · exact Or.inr ⟨fun _ => z3, good hd z1 z2⟩
      · rw [z1] at hd
        omega
