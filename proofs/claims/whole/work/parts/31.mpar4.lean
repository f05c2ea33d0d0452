/-! ===== the reference: words, flags; what a view shows ===== -/
theorem zltr_lt {x : Nat} (h : zlrg x = true) : zltr x < 32 := by
  have h2 : 65 ≤ x ∧ x ≤ 90 := of_decide_eq_true h
  unfold zltr
  split
  · omega
  · omega
theorem zwl_lt {c : Nat → Nat} : ∀ k p n v, (∀ j, j < k → zlrg (c (p + j)) = true) → n + k ≤ 7 → v < 32 ^ n → zwl c k p n v < 32 ^ (n + k) := by
  intro k
  induction k with
  | zero => exact fun p n v _ _ h => h
  | succ k ih =>
    intro p n v hj hn hv
    show zwl c k (p + 1) (n + 1) (if n < 7 then v * 32 + zltr (c p) else v) < 32 ^ (n + (k + 1))
    rw [if_pos (by omega), show n + (k + 1) = n + 1 + k by omega]
    refine ih (p + 1) (n + 1) _ (fun j hj2 => by have := hj (j + 1) (by omega); rw [show p + 1 + j = p + (j + 1) by omega]; exact this) (by omega) ?_
    have := zltr_lt (hj 0 (by omega))
    rw [Nat.add_zero] at this
    rw [Nat.pow_succ]
    have h3 : v + 1 ≤ 32 ^ n := hv
    have := Nat.mul_le_mul_right 32 h3
    omega
theorem zre_all {f : Nat → Bool} {c : Nat → Nat} (hc : zCh c) (h0 : f 0 = false) : ∀ p j, p + j < zre f c p → f (c (p + j)) = true := by
  refine zrun_ind (C := fun p => ∀ j, p + j < zre f c p → f (c (p + j)) = true) hc h0 ?_ ?_
  · intro p h hp ih j hj
    cases j with
    | zero => exact h
    | succ j =>
      rw [zre_t hc h0 h] at hj
      have := ih j (by omega)
      rw [show p + (j + 1) = p + 1 + j by omega]; exact this
  · intro p h j hj
    rw [zre_f h] at hj; omega
theorem zwn_lt {c : Nat → Nat} (hc : zCh c) (p : Nat) : zwn c p < 18446744073709551616 := by
  unfold zwn
  split
  · decide
  · rename_i q
    have h1 := zwl_lt (c := c) (zre zlrg c p - p) p 0 0 (fun j hj => zre_all hc rfl p j (by omega)) (by omega) (by decide)
    rw [Nat.zero_add] at h1
    have h2 : (32 : Nat) ^ (zre zlrg c p - p) * 32 ^ (7 - (zre zlrg c p - p)) = 32 ^ 7 := by rw [← Nat.pow_add]; congr 1; omega
    have h3 := Nat.mul_lt_mul_of_pos_right h1 (show 0 < 32 ^ (7 - (zre zlrg c p - p)) from Nat.pow_pos (by decide))
    rw [h2] at h3
    have : (32 : Nat) ^ 7 = 34359738368 := by decide
    omega
def zfi (f : Nat → Nat) (v : Nat) : Nat → Nat → Option Nat
  | 0, _ => none
  | k + 1, i => if f i = v then some i else zfi f v k (i + 1)
theorem zfi_some {f : Nat → Nat} {v : Nat} : ∀ {k i j : Nat}, zfi f v k i = some j → i ≤ j ∧ j < i + k ∧ f j = v
  | 0, i, j, h => by cases h
  | k + 1, i, j, h => by
    unfold zfi at h
    split at h
    · rename_i q; cases h; exact ⟨Nat.le_refl _, by omega, q⟩
    · have := zfi_some h; exact ⟨by omega, by omega, this.2.2⟩
def zvn (m : zMm) (n : Nat) : Nat := m 0 145 (40 * (m 520 132 0) + n - 1)
def znp (m : zMm) : Nat := m 0 144 (m 520 132 0)
def zsb (m : zMm) : Nat := m 0 142 (m 520 132 0)
def zmt (m : zMm) (n : Nat) : Option Nat := zfi (fun i => m 0 137 i) (zvn m n) (m 0 136 (zsb m)) (10 * zsb m)
/-- a session with a view of a mailbox -/
def zVB (m : zMm) : Prop := m 520 132 0 < 3 ∧ zsb m < 4 ∧ m 0 136 (zsb m) ≤ 10 ∧ znp m ≤ 40 ∧ (∀ i, i < 40 → m 0 137 i < 2147483648 ∧ m 0 138 i < 16 ∧ m 0 139 i ≤ 6 ∧ ∀ k, k < 6 → m 0 140 (6 * i + k) < 127) ∧ ∀ k, k < 120 → m 0 145 k < 2147483648
theorem zVB_fr {l : List (Nat × Nat)} {m m' : zMm} (h : zVB m) (hf : zfr l m m') (h0 : ∀ q ∈ l, q ≠ (520, 132) ∧ q ≠ (0, 142) ∧ q ≠ (0, 136) ∧ q ≠ (0, 144) ∧ q ≠ (0, 137) ∧ q ≠ (0, 138) ∧ q ≠ (0, 139) ∧ q ≠ (0, 140) ∧ q ≠ (0, 145) := by decide) : zVB m' := by
  have e1 : m' 520 132 0 = m 520 132 0 := hf _ _ _ fun q => (h0 _ q).1 rfl
  have e2 : ∀ i, m' 0 142 i = m 0 142 i := fun i => hf _ _ _ fun q => (h0 _ q).2.1 rfl
  have e3 : ∀ i, m' 0 136 i = m 0 136 i := fun i => hf _ _ _ fun q => (h0 _ q).2.2.1 rfl
  have e4 : ∀ i, m' 0 144 i = m 0 144 i := fun i => hf _ _ _ fun q => (h0 _ q).2.2.2.1 rfl
  have e5 : ∀ i, m' 0 137 i = m 0 137 i := fun i => hf _ _ _ fun q => (h0 _ q).2.2.2.2.1 rfl
  have e6 : ∀ i, m' 0 138 i = m 0 138 i := fun i => hf _ _ _ fun q => (h0 _ q).2.2.2.2.2.1 rfl
  have e7 : ∀ i, m' 0 139 i = m 0 139 i := fun i => hf _ _ _ fun q => (h0 _ q).2.2.2.2.2.2.1 rfl
  have e8 : ∀ i, m' 0 140 i = m 0 140 i := fun i => hf _ _ _ fun q => (h0 _ q).2.2.2.2.2.2.2.1 rfl
  have e9 : ∀ i, m' 0 145 i = m 0 145 i := fun i => hf _ _ _ fun q => (h0 _ q).2.2.2.2.2.2.2.2 rfl
  have e10 : zsb m' = zsb m := by unfold zsb; rw [e1, e2]
  have e11 : znp m' = znp m := by unfold znp; rw [e1, e4]
  obtain ⟨a1, a2, a3, a4, a5, a6⟩ := h
  refine ⟨by rw [e1]; exact a1, by rw [e10]; exact a2, by rw [e10, e3]; exact a3, by rw [e11]; exact a4, fun i hi => ?_, fun k hk => by rw [e9]; exact a6 k hk⟩
  rw [e5, e6, e7]
  exact ⟨(a5 i hi).1, (a5 i hi).2.1, (a5 i hi).2.2.1, fun k hk => by rw [e8]; exact (a5 i hi).2.2.2 k hk⟩
section
variable {L : Nat} {xs : Nat → Int32} {h : zH} {m : zMm} {c : Nat → Nat}
theorem s99 (hx : zFx h) (hl : zLC m c) (ha : m 521 132 0 ≤ 68) (hb : m 522 132 0 ≤ 1) : ∃ m', zCl (zPr L xs) 99 [.ref 132] (zMH h m) = some (.inl none, zMH h m') ∧ zfr [(521, 132), (522, 132), (529, 132)] m m' ∧ m' 521 132 0 ≤ 70 ∧ m' 522 132 0 ≤ 1 ∧ (m 522 132 0 = 1 → m' 522 132 0 = 1) ∧ (m 522 132 0 = 0 → match zfls c (m 521 132 0) with
    | none => m' 522 132 0 = 1
    | some (f, e) => m' 522 132 0 = 0 ∧ m' 521 132 0 = e ∧ m' 529 132 0 = f) := by
  have hc := hl.2.2
  have f0 : zflg 0 = false := rfl
  obtain ⟨m1, e1, f1, g1⟩ := s96g (L := L) (xs := xs) hx hl 40 (by omega)
  have hl1 := zLC_fr hl f1
  have loop : ∀ (p : Nat), p ≤ 69 → ∀ (m : zMm) (v : Nat), zLC m c → m 521 132 0 = p → m 529 132 0 = v → ∃ m', zEv (zPr L xs) 2 99 11 [.val (.ref 132)] [] (zMH h m) = zEv (zPr L xs) 2 99 11 [.val (.ref 132)] [] (zMH h m') ∧ zfr [(521, 132), (529, 132)] m m' ∧ m' 521 132 0 = zre zflg c p ∧ m' 529 132 0 = zmk c (zre zflg c p - p) p v := by
    refine zrun_ind hc (f := zflg) f0 ?_ ?_
    · intro p hd hp ih h65 m v hl he hv
      have hd2 : zbit (c p) ≠ 0 := of_decide_eq_true hd
      obtain ⟨m', q1, q2, q3, q4⟩ := ih (by omega) (u3 (u3 m 529 132 0 ((m 529 132 0) ||| (zbit (c (m 521 132 0))))) 521 132 0 (m 521 132 0 + 1)) (v ||| zbit (c p)) (zLC_fr hl (zfr_u (l := [(521, 132), (529, 132)]) (zfr_u (zfr_rf _ _) (by decide)) (by decide))) (by show m 521 132 0 + 1 = p + 1; omega) (by show (m 529 132 0) ||| (zbit (c (m 521 132 0))) = _; rw [he, hv])
      refine ⟨m', (p99_11_1 hx hl (by rw [he]; exact hd2)).trans q1, zfr_tr (l := [(521, 132), (529, 132)]) (zfr_u (l := [(521, 132), (529, 132)]) (zfr_u (zfr_rf _ _) (by decide)) (by decide)) q2 (fun _ q => q) (fun _ q => q), ?_, ?_⟩
      · rw [q3, zre_t hc f0 hd]
      · rw [q4, zre_t hc f0 hd]
        have := (zre_ge hc f0 (p + 1)).1
        rw [show zre zflg c (p + 1) - p = (zre zflg c (p + 1) - (p + 1)) + 1 by omega]
        rfl
    · intro p hd h65 m v hl he hv
      refine ⟨m, rfl, zfr_rf _ _, ?_, ?_⟩
      · rw [zre_f hd]; exact he
      · rw [zre_f hd, Nat.sub_self]; exact hv
  have hl1' : zLC (u3 m1 529 132 0 0) c := zLC_fr hl1 (zfr_u (l := [(529, 132)]) (zfr_rf _ _) (by decide))
  have h1at : m1 521 132 0 ≤ 69 := by rcases g1 with g | g <;> omega
  obtain ⟨m2, e2, f2, k1, k2⟩ := loop (m1 521 132 0) h1at (u3 m1 529 132 0 0) 0 hl1' rfl rfl
  have hl2 := zLC_fr hl1' f2
  have hg := zre_ge hc f0 (m1 521 132 0)
  have h64 : m2 521 132 0 ≤ 69 := by
    rw [k1]
    by_cases q : m1 521 132 0 ≤ 48
    · have := hg.2.1 q; omega
    · rw [zre_f (by rw [hc.1 _ (by omega)]; rfl)]; exact h1at
  have hd2 : zbit (c (m2 521 132 0)) = 0 := by
    rw [k1]
    exact Decidable.byContradiction fun q => by
      have : zflg (c (zre zflg c (m1 521 132 0))) = true := decide_eq_true q
      rw [hg.2.2] at this; cases this
  have hb2 : m2 522 132 0 = m1 522 132 0 := (f2 _ _ _ (by decide)).trans rfl
  have hb1 : m1 522 132 0 ≤ 1 := by rcases g1 with g | g <;> omega
  -- the end
  by_cases q64 : m2 521 132 0 ≤ 68
  · obtain ⟨m3, e3, f3, g3⟩ := s96g (L := L) (xs := xs) hx hl2 41 (by omega)
    have fr : zfr [(521, 132), (522, 132), (529, 132)] m m3 := zfr_tr f1 (zfr_tr (l := [(521, 132), (522, 132), (529, 132)]) (zfr_u (l := [(521, 132), (522, 132), (529, 132)]) (zfr_rf _ m1) (by decide)) (zfr_tr (l := [(521, 132), (522, 132), (529, 132)]) f2 f3 (by decide) (by decide)) (fun _ q => q) (fun _ q => q)) (by decide) (fun _ q => q)
    refine ⟨m3, ?_, fr, ?_, ?_, fun q => ?_, fun q => ?_⟩
    · rw [en_99, p99_0_1 hx hl e1, e2]
      exact p99_11_2 hx hl2 hd2 e3
    · rcases g3 with g | g <;> omega
    · rcases g3 with g | g <;> omega
    · rcases g3 with g | g
      · rcases g1 with g1 | g1 <;> omega
      · omega
    · have hm3 : m3 529 132 0 = m2 529 132 0 := f3 _ _ _ (by decide)
      unfold zfls
      rcases g1 with ⟨a1, a2, a3⟩ | ⟨a1, a2, a3⟩
      · rw [a2] at k1 k2
        rcases g3 with ⟨b1, b2, b3⟩ | ⟨b1, b2, b3⟩
        · rw [k1] at b1
          rw [if_pos ⟨a1, b1⟩]
          exact ⟨by omega, by rw [b2, k1], by rw [hm3, k2]⟩
        · rw [k1] at b1
          rw [if_neg (fun z => b1 z.2)]
          exact b3
      · rw [if_neg (fun z => a1 z.1)]
        show m3 522 132 0 = 1
        rcases g3 with ⟨b1, b2, b3⟩ | ⟨b1, b2, b3⟩ <;> omega
  · -- beyond the line
    exfalso
    have : m2 521 132 0 = 69 := by omega
    have h2 : m1 521 132 0 = 69 := by
      by_cases q : m1 521 132 0 ≤ 48
      · have := hg.2.1 q; omega
      · have : zre zflg c (m1 521 132 0) = m1 521 132 0 := zre_f (by rw [hc.1 _ (by omega)]; rfl)
        omega
    rcases g1 with ⟨a1, a2, a3⟩ | ⟨a1, a2, a3⟩
    · have : m 521 132 0 < 48 := Nat.lt_of_not_le fun q => by rw [hc.1 _ q] at a1; cases a1
      omega
    · omega
/-- a word -/
theorem s95 (hx : zFx h) (hl : zLC m c) (ha : m 521 132 0 ≤ 66) : ∃ m', zCl (zPr L xs) 95 [.ref 132] (zMH h m) = some (.inl (some (.long (nL (zwn c (m 521 132 0))))), zMH h m') ∧ zfr [(521, 132)] m m' ∧ m' 521 132 0 = zre zlrg c (m 521 132 0) := by
  have hc := hl.2.2
  rw [en_95, p95_0_1 hx hl]
  have loop : ∀ (p : Nat), ∀ (m : zMm) (n v : Nat) (w4 : Slot), zLC m c → m 521 132 0 = p → p ≤ 66 → n ≤ p → w4 ≠ .second → ∃ w, w ≠ Slot.second ∧ zEv (zPr L xs) 1 95 4 [.val (.ref 132), .val (.long (nL v)), .second, .val (.int (nI n)), w4] [] (zMH h m) = zEv (zPr L xs) 1 95 4 [.val (.ref 132), .val (.long (nL (zwl c (zre zlrg c p - p) p n v))), .second, .val (.int (nI (n + (zre zlrg c p - p)))), w] [] (zMH h (u3 m 521 132 0 (zre zlrg c p))) := by
    refine zrun_ind hc (f := zlrg) rfl ?_ ?_
    · intro p hd hp ih m n v w4 hl he h66 hn hw4
      have hd2 : 65 ≤ c p ∧ c p ≤ 90 := of_decide_eq_true hd
      have hl' : zLC (u3 m 521 132 0 (m 521 132 0 + 1)) c := zLC_fr hl (zfr_u (l := [(521, 132)]) (zfr_rf _ _) (by decide))
      obtain ⟨w, hw, q⟩ := ih (u3 m 521 132 0 (m 521 132 0 + 1)) (n + 1) (if n < 7 then v * 32 + zltr (c p) else v) w4 hl' (by show m 521 132 0 + 1 = p + 1; omega) (by omega) (by omega) hw4
      have hg := (zre_ge hc (f := zlrg) rfl (p + 1)).1
      refine ⟨w, hw, ?_⟩
      rw [zre_t hc rfl hd, show zre zlrg c (p + 1) - p = (zre zlrg c (p + 1) - (p + 1)) + 1 by omega]
      rw [u3_u3] at q
      have e9 : n + (zre zlrg c (p + 1) - (p + 1) + 1) = n + 1 + (zre zlrg c (p + 1) - (p + 1)) := by omega
      rw [e9]
      refine Eq.trans ?_ q
      by_cases c2 : n < 7
      · rw [if_pos c2, ← he]
        exact p95_4_1 hx hl (by rw [he]; exact hd) c2 (by omega) (by omega) (by omega) (by rw [he]; omega)
      · rw [if_neg c2]
        exact p95_4_2 hx hl (by rw [he]; exact hd) (by omega) (by omega) (by omega) (by omega)
    · intro p hd m n v w4 hl he h66 hn hw4
      refine ⟨w4, hw4, ?_⟩
      rw [zre_f hd, Nat.sub_self, u3_self he]; rfl
  obtain ⟨w, hw, q⟩ := loop (m 521 132 0) m 0 0 .unset hl rfl ha (by omega) (fun q => by cases q)
  rw [q, Nat.zero_add]
  have hg := zre_ge hc (f := zlrg) rfl (m 521 132 0)
  have hl2 : zLC (u3 m 521 132 0 (zre zlrg c (m 521 132 0))) c := zLC_fr hl (zfr_u (l := [(521, 132)]) (zfr_rf _ _) (by decide))
  have h66 : zre zlrg c (m 521 132 0) ≤ 66 := by
    by_cases q : m 521 132 0 ≤ 48
    · have := hg.2.1 q; omega
    · rw [zre_f (by rw [hc.1 _ (by omega)]; rfl)]; exact ha
  refine ⟨u3 m 521 132 0 (zre zlrg c (m 521 132 0)), ?_, zfr_u (zfr_rf _ _) (by decide), rfl⟩
  unfold zwn
  by_cases c2 : zre zlrg c (m 521 132 0) - m 521 132 0 = 0
  · rw [if_pos (Or.inl c2), c2]
    exact p95_4_5 hx hl2 hg.2.2 rfl (by show zre zlrg c (m 521 132 0) < _; omega)
  · by_cases c3 : 7 < zre zlrg c (m 521 132 0) - m 521 132 0
    · rw [if_pos (Or.inr c3)]
      exact p95_4_3 hx hl2 hg.2.2 c2 c3 (by show zre zlrg c (m 521 132 0) < _; omega) (by omega)
    · rw [if_neg (by omega), p95_4_4 hx hl2 hg.2.2 c2 (by omega) hw (by show zre zlrg c (m 521 132 0) < _; omega) (by omega)]
      generalize zre zlrg c (m 521 132 0) - m 521 132 0 = n at c2 c3 ⊢
      generalize zwl c n (m 521 132 0) 0 0 = v
      have loop2 : ∀ k n v, n + k = 7 → ∀ w0 w3 : Slot, w0 ≠ .second → w3 ≠ .second → zEv (zPr L xs) 1 95 79 [w0, .val (.long (nL v)), .second, w3, .val (.int (nI n))] [] (zMH h (u3 m 521 132 0 (zre zlrg c (m 521 132 0)))) = some (.inl (some (.long (nL (v * 32 ^ k)))), zMH h (u3 m 521 132 0 (zre zlrg c (m 521 132 0)))) := by
        intro k
        induction k with
        | zero =>
          intro n v hn w0 w3 hw0 hw3
          rw [p95_79_2 hx hl2 (by omega) (by omega), Nat.pow_zero, Nat.mul_one]
        | succ k ih =>
          intro n v hn w0 w3 hw0 hw3
          rw [p95_79_1 hx hl2 (by omega) (by omega), ih (n + 1) (v * 32) (by omega) w0 w3 hw0 hw3, Nat.mul_assoc, show 32 * 32 ^ k = 32 ^ (k + 1) by rw [Nat.pow_succ, Nat.mul_comm]]
      exact loop2 (7 - n) n v (by omega) _ _ (fun q => by cases q) (fun q => by cases q)
/-- the greatest number of the view -/
theorem s107 (hx : zFx h) (hl : zLC m c) (hv : zVB m) : zCl (zPr L xs) 107 [.ref 132] (zMH h m) = some (.inl (some (.int (nI (if znp m = 0 then 0 else zvn m (znp m))))), zMH h m) := by
  obtain ⟨a1, a2, a3, a4, a5, a6⟩ := hv
  rw [en_107]
  by_cases c1 : m 0 144 (m 520 132 0) = 0
  · rw [p107_0_1 hx hl c1, if_pos (show znp m = 0 from c1)]
  · rw [if_neg (show ¬ znp m = 0 from c1)]
    unfold znp at a4
    exact p107_0_2 hx hl c1
/-- whether a place is in the set at hand -/
theorem s108 (hx : zFx h) (hl : zLC m c) (hv : zVB m) {n : Nat} {q : Bool} {l : List zRg} {f : Nat} (hz : zset c f (m 527 132 0) = some (l, m 528 132 0)) (hp : m 527 132 0 ≤ 64) (hn : 1 ≤ n ∧ n ≤ 40) :
    zCl (zPr L xs) 108 [.ref 132, .int (nI n), .int (nI q.toNat)] (zMH h m) = some (.inl (some (.int (nI (if q then zrsin l (zvn m n) (if znp m = 0 then 0 else zvn m (znp m)) else zrsin l n (znp m)).toNat))), zMH h m) := by
  have e1 := s107 (L := L) (xs := xs) hx hl hv
  obtain ⟨a1, a2, a3, a4, a5, a6⟩ := hv
  have hb : (if znp m = 0 then 0 else zvn m (znp m)) < 2147483648 := by
    split
    · decide
    · rename_i q0
      unfold zvn; exact a6 _ (by omega)
  rw [en_108]
  cases q with
  | true => exact p108_0_1 hx hl rfl rfl e1 (s105 hx hl hz hp (a6 _ (by omega)) hb)
  | false => exact p108_0_4 hx hl rfl rfl (s105 hx hl hz hp (by omega) (by unfold znp at a4; show m 0 144 (m 520 132 0) < _; omega))
/-- where a place's message lies -/
theorem s109 (hx : zFx h) (hl : zLC m c) (hv : zVB m) {n : Nat} (hn : 1 ≤ n ∧ n ≤ 40) : zCl (zPr L xs) 109 [.ref 132, .int (nI n)] (zMH h m) = some (.inl (some (.int (match zmt m n with | some j => nI j | none => -1))), zMH h m) := by
  obtain ⟨a1, a2, a3, a4, a5, a6⟩ := hv
  unfold zsb at a2 a3
  rw [en_109, p109_0_1 hx hl]
  have hvv := a6 (40 * (m 520 132 0) + n - 1) (by omega)
  have loop : ∀ k i, i + k = 10 * zsb m + m 0 136 (zsb m) → 10 * zsb m ≤ i → zEv (zPr L xs) 0 109 15 [.val (.ref 132), .val (.int (nI n)), .val (.int (nI (zsb m))), .val (.int (nI i))] [] (zMH h m) = some (.inl (some (.int (match zfi (fun i => m 0 137 i) (zvn m n) k i with | some j => nI j | none => -1))), zMH h m) := by
    unfold zsb
    intro k
    induction k with
    | zero => intro i hi h0; exact p109_15_3 hx hl (by omega)
    | succ k ih =>
      intro i hi h0
      have h5 := (a5 i (by omega)).1
      unfold zfi
      by_cases q : m 0 137 i = zvn m n
      · rw [if_pos q]
        exact p109_15_1 hx hl (by omega) q
      · rw [if_neg q, p109_15_2 hx hl (by omega) q]
        exact ih (i + 1) (by omega) (by omega)
  exact loop (m 0 136 (zsb m)) (10 * zsb m) (by unfold zsb; omega) (Nat.le_refl _)
/-- the text that was read is a part -/
def zmat (m : zMm) (c : Nat → Nat) (i f : Nat) : Nat → Nat → Bool
  | 0, _ => true
  | k + 1, j => decide (m 0 140 (6 * i + f + j) = c (m 531 132 0 + j)) && zmat m c i f k (j + 1)
def zwth (m : zMm) (c : Nat → Nat) (i : Nat) : Nat → Nat → Bool
  | 0, _ => false
  | k + 1, f => zmat m c i f (m 532 132 0) 0 || zwth m c i k (f + 1)
theorem s110 (hx : zFx h) (hl : zLC m c) (hv : zVB m) {i : Nat} (hi : i < 40) (ht : m 531 132 0 ≤ 64) (hn : 1 ≤ m 532 132 0 ∧ m 532 132 0 ≤ 6) : zCl (zPr L xs) 110 [.ref 132, .int (nI i)] (zMH h m) = some (.inl (some (.int (nI (zwth m c i (m 0 139 i + 1 - m 532 132 0) 0).toNat))), zMH h m) := by
  obtain ⟨a1, a2, a3, a4, a5, a6⟩ := hv
  have h5 := a5 i hi
  rw [en_110, p110_0_1 hx hl]
  have inner : ∀ k j (x4 x2 : Bool) (f : Nat), j + k = m 532 132 0 → f + m 532 132 0 ≤ m 0 139 i → zEv (zPr L xs) 1 110 25 [.val (.ref 132), .val (.int (nI i)), .val (.int (nI x2.toNat)), .val (.int (nI f)), .val (.int (nI x4.toNat)), .val (.int (nI j))] [] (zMH h m) = zEv (zPr L xs) 1 110 25 [.val (.ref 132), .val (.int (nI i)), .val (.int (nI x2.toNat)), .val (.int (nI f)), .val (.int (nI (x4 && zmat m c i f k j).toNat)), .val (.int (nI (m 532 132 0)))] [] (zMH h m) := by
    intro k
    induction k with
    | zero =>
      intro j x4 x2 f hj hf
      rw [show j = m 532 132 0 by omega]
      show _ = zEv _ _ _ _ [_, _, _, _, .val (.int (nI (x4 && true).toNat)), _] [] _
      rw [Bool.and_true]
    | succ k ih =>
      intro j x4 x2 f hj hf
      have hmat : zmat m c i f (k + 1) j = (decide (m 0 140 (6 * i + f + j) = c (m 531 132 0 + j)) && zmat m c i f k (j + 1)) := rfl
      have ht6 : m 0 140 (6 * i + f + j) < 127 := by
        have := h5.2.2.2 (f + j) (by omega)
        rw [Nat.add_assoc]; exact this
      cases x4 with
      | false => rw [p110_25_3 hx hl (by omega) rfl, ih (j + 1) false x2 f (by omega) hf]; rfl
      | true =>
        rw [hmat, Bool.true_and]
        by_cases q : m 0 140 (6 * i + f + j) = c (m 531 132 0 + j)
        · rw [p110_25_1 hx hl (by omega) rfl q, ih (j + 1) true x2 f (by omega) hf, decide_eq_true q, Bool.true_and]
        · rw [p110_25_2 hx hl (by omega) rfl q, ih (j + 1) false x2 f (by omega) hf, decide_eq_false q]
  have outer : ∀ k f (x2 : Bool) (w4 w5 : Slot), f + k = m 0 139 i + 1 - m 532 132 0 → w4 ≠ .second → w5 ≠ .second → zEv (zPr L xs) 1 110 4 [.val (.ref 132), .val (.int (nI i)), .val (.int (nI x2.toNat)), .val (.int (nI f)), w4, w5] [] (zMH h m) = some (.inl (some (.int (nI (x2 || zwth m c i k f).toNat))), zMH h m) := by
    intro k
    induction k with
    | zero =>
      intro f x2 w4 w5 hf hw4 hw5
      rw [p110_4_2 hx hl (by omega)]
      show _ = some (Sum.inl (some (Value.int (nI (x2 || false).toNat))), zMH h m)
      rw [Bool.or_false]
    | succ k ih =>
      intro f x2 w4 w5 hf hw4 hw5
      have hw : zwth m c i (k + 1) f = (zmat m c i f (m 532 132 0) 0 || zwth m c i k (f + 1)) := rfl
      rw [p110_4_1 hx hl (by omega) hw4 hw5]
      refine (inner (m 532 132 0) 0 true x2 f (by omega) (by omega)).trans ?_
      rw [Bool.true_and, hw, ← Bool.or_assoc]
      cases x2 with
      | true => rw [p110_25_6 hx hl (Nat.le_refl _) rfl, ih (f + 1) true _ _ (by omega) (fun q => by cases q) (fun q => by cases q)]; rfl
      | false =>
        cases hq : zmat m c i f (m 532 132 0) 0 with
        | true => rw [p110_25_4 hx hl (Nat.le_refl _) rfl rfl, ih (f + 1) true _ _ (by omega) (fun q => by cases q) (fun q => by cases q)]; rfl
        | false => rw [p110_25_5 hx hl (Nat.le_refl _) rfl rfl, ih (f + 1) false _ _ (by omega) (fun q => by cases q) (fun q => by cases q)]; rfl
  exact outer (m 0 139 i + 1 - m 532 132 0) 0 false _ _ (by omega) (fun q => by cases q) (fun q => by cases q)
end
