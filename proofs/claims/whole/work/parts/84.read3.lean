/-! ===== the class's reader: sets ===== -/
theorem zLm_ch {m : zMm} {s len : Nat} {c : Nat → Nat} (hl : zLm m s len c) (h48 : len ≤ 48) : zCh c := ⟨fun p hp => by rw [hl.1 p, if_neg (by omega)], hl.2⟩
/-- how many digits there are, at most f -/
def zdn (c : Nat → Nat) : Nat → Nat → Nat
  | 0, _ => 0
  | f + 1, b => if zdig (c b) = true then 1 + zdn c f (b + 1) else 0
theorem zdn_re {c : Nat → Nat} (hc : zCh c) : ∀ f b, b ≤ zre zdig c b ∧ zdn c f b = if f ≤ zre zdig c b - b then f else zre zdig c b - b
  | 0, b => ⟨by
    by_cases q : zdig (c b) = true
    · rw [zre_t hc rfl q]
      have : ∀ n b, b ≤ zrn zdig c n b := by
        intro n
        induction n with
        | zero => intro b; exact Nat.le_refl _
        | succ n ih =>
          intro b
          show b ≤ if zdig (c b) = true then zrn zdig c n (b + 1) else b
          split
          · exact Nat.le_trans (Nat.le_succ b) (ih (b + 1))
          · exact Nat.le_refl _
      exact Nat.le_trans (Nat.le_succ b) (this _ _)
    · rw [zre_f (by cases z : zdig (c b) with
        | true => exact absurd z q
        | false => rfl)]
      exact Nat.le_refl _, by rw [if_pos (Nat.zero_le _)]; rfl⟩
  | f + 1, b => by
    unfold zdn
    by_cases q : zdig (c b) = true
    · obtain ⟨i1, i2⟩ := zdn_re hc f (b + 1)
      rw [if_pos q, i2, zre_t hc rfl q]
      refine ⟨by omega, ?_⟩
      by_cases r : f ≤ zre zdig c (b + 1) - (b + 1)
      · rw [if_pos r, if_pos (by omega)]; omega
      · rw [if_neg r, if_neg (by omega)]; omega
    · have z : zdig (c b) = false := by cases z : zdig (c b) with
        | true => exact absurd z q
        | false => rfl
      rw [if_neg q, zre_f z]
      refine ⟨Nat.le_refl _, ?_⟩
      rw [if_neg (by omega)]
      omega
theorem zdn_nd {c : Nat → Nat} : ∀ f b, zdn c f b < f → zdig (c (b + zdn c f b)) = false
  | 0, _, h => by omega
  | f + 1, b, h => by
    unfold zdn at h ⊢
    by_cases q : zdig (c b) = true
    · rw [if_pos q] at h ⊢
      have := zdn_nd (c := c) f (b + 1) (by omega)
      rw [show b + (1 + zdn c f (b + 1)) = b + 1 + zdn c f (b + 1) by omega]
      exact this
    · rw [if_neg q]
      cases z : zdig (c b) with
      | true => exact absurd z q
      | false => rfl
theorem zdn_all {c : Nat → Nat} : ∀ f b, zdn c f b = f → ∀ j, j < f → zdig (c (b + j)) = true
  | 0, _, _, _, hj => by omega
  | f + 1, b, h, j, hj => by
    unfold zdn at h
    by_cases q : zdig (c b) = true
    · rw [if_pos q] at h
      cases j with
      | zero => exact q
      | succ j =>
        have := zdn_all (c := c) f (b + 1) (by omega) j (by omega)
        rw [show b + (j + 1) = b + 1 + j by omega]
        exact this
    · rw [if_neg q] at h
      omega
section
variable {L : Nat} {xs : Nat → Int32} {h : zH} {m : zMm} {O : zOt} {W : List (Nat × Nat)} {p s len a : Nat} {bd wr : Bool} {c : Nat → Nat}
theorem zdig_iff {x : Nat} : zdig x = true ↔ 48 ≤ x ∧ x ≤ 57 := by
  unfold zdig
  simp only [Bool.and_eq_true, decide_eq_true_eq]
theorem s38d (hs : s < 3) (hl : zLm m s len c) {b : Bool} : ∀ (f i v a : Nat) (h : zH), zFx h → zRr h p s len a bd wr → f + i = 3 → v < 10 ^ i → ∃ h', zEv (zPr L xs) 1 38 28 [.val (.ref p), .val (.int (nI b.toNat)), .val (.int (nI v)), .val (.int (nI i)), .val (.int (nI i))] [] (zMH h m) = zEv (zPr L xs) 1 38 84 [.val (.ref p), .val (.int (nI b.toNat)), .val (.int (nI (zdv c (zdn c f a) a v))), .val (.int (nI (i + zdn c f a))), .val (.int (nI (i + zdn c f a)))] [] (zMH h' m) ∧ zRr h' p s len (a + zdn c f a) bd wr ∧ zRf p 0 0 h h' ∧ zdv c (zdn c f a) a v < 1000 := by
  intro f
  induction f with
  | zero =>
    intro i v a h hx r hf hv
    have hi : i = 3 := by omega
    rw [hi] at hv ⊢
    exact ⟨h, p38_28_4 hx hs (Nat.le_refl 3) (by decide), r, zRf_rf p h, hv⟩
  | succ f ih =>
    intro i v a h hx r hf hv
    have cl := hl.2 a
    have e39 := s39 (L := L) (xs := xs) hx hs hl r
    have b5 : 154 ≤ p := by have := r.1.1.1; omega
    have v3 : v < 1000 := Nat.lt_of_lt_of_le hv (by
      have : i = 0 ∨ i = 1 ∨ i = 2 := by omega
      rcases this with e | e | e <;> rw [e] <;> decide)
    unfold zdn
    by_cases q : zdig (c a) = true
    · rw [if_pos q]
      have qq := zdig_iff.1 q
      have al : a < len := Nat.lt_of_not_le fun z => by have := hl.1 a; rw [if_neg (by omega)] at this; omega
      have st := p38_28_1 (L := L) (xs := xs) (x1 := b) (x2 := v) (x3 := i) (x4 := i) hx hs (by omega) r.1.2.1 e39 qq.1 e39 qq.2 e39 r.2.2.2.2.1 (by omega) (by omega) (by omega) (by omega) b5
      obtain ⟨h', e', r', f', l'⟩ := ih (i + 1) (v * 10 + c a - 48) (a + 1) (zsI h 253 p 0 (nI (a + 1))) (zFx_rf hx (zRf_sI p h _ (Or.inl rfl))) (zRr_at r (by omega)) (by omega) (by rw [Nat.pow_succ]; omega)
      have z : zdv c (1 + zdn c f (a + 1)) a v = zdv c (zdn c f (a + 1)) (a + 1) (v * 10 + c a - 48) := by
        rw [Nat.add_comm 1, Nat.mul_comm v 10]
        rfl
      rw [z, show i + (1 + zdn c f (a + 1)) = i + 1 + zdn c f (a + 1) by omega, show a + (1 + zdn c f (a + 1)) = a + 1 + zdn c f (a + 1) by omega]
      exact ⟨h', st.trans e', r', zRf_tr (zRf_sI p h _ (Or.inl rfl)) f', l'⟩
    · rw [if_neg q]
      have nq : ¬ (48 ≤ c a ∧ c a ≤ 57) := fun z => q (zdig_iff.2 z)
      refine ⟨h, ?_, r, zRf_rf p h, v3⟩
      by_cases q1 : 48 ≤ c a
      · exact p38_28_2 hx hs (by omega) r.1.2.1 e39 q1 e39 (by omega) (by omega) (by omega) (by omega)
      · exact p38_28_3 hx hs (by omega) r.1.2.1 e39 (by omega) (by omega) (by omega)
def zpC (pt n : Nat) (b : Bool) : Bool := !b && decide (pt = 0 ∨ n < pt)
theorem s38w (hx : zFx h) (hs : s < 3) (hW : zWv h m O s W) (r : zRr h p s len a bd wr) {b : Bool} {v : Nat} (hv : v < 10000) {w3 w4 : Slot} : ∃ h', zEv (zPr L xs) 1 38 93 [.val (.ref p), .val (.int (nI b.toNat)), .val (.int (nI v)), w3, w4] [] (zMH h m) = some (.inl (some (.int (nI v))), zMH h' m) ∧ zRr h' p s len a bd (wr || zpC v W.length b) ∧ zRf p 0 0 h h' := by
  have b5 : 154 ≤ p := by have := r.1.1.1; omega
  have l40 := hW.2.1
  unfold zpC
  have yes : zEv (zPr L xs) 1 38 112 [.val (.ref p), .val (.int (nI b.toNat)), .val (.int (nI v)), w3, w4] [] (zMH h m) = some (.inl (some (.int (nI v))), zMH (zsI h 255 p 0 (nI 1)) m) := (p38_112_1 hx hs r.1.2.1 b5).trans (p38_117_1 (zFx_rf hx (zRf_sI p h _ (Or.inr (Or.inr rfl)))) hs)
  cases b with
  | true => exact ⟨h, (p38_93_4 (x1 := true) hx hs rfl).trans (p38_117_1 hx hs), by rw [show (wr || (!true && decide (v = 0 ∨ W.length < v))) = wr by cases wr <;> rfl]; exact r, zRf_rf p h⟩
  | false =>
    by_cases q : v = 0
    · rw [decide_eq_true (Or.inl q), show (wr || (!false && true)) = true by cases wr <;> rfl]
      exact ⟨_, (p38_93_3 (x1 := false) hx hs rfl q).trans yes, zRr_wr r, zRf_sI p h _ (Or.inr (Or.inr rfl))⟩
    · by_cases q2 : W.length < v
      · rw [decide_eq_true (Or.inr q2), show (wr || (!false && true)) = true by cases wr <;> rfl]
        exact ⟨_, (p38_93_1 (x1 := false) hx hs rfl q r.1.2.1 r.2.2.1 (by rw [hW.1]; exact q2) (by omega) (by rw [hW.1]; omega)).trans yes, zRr_wr r, zRf_sI p h _ (Or.inr (Or.inr rfl))⟩
      · rw [decide_eq_false (fun z => z.elim q q2), show (wr || (!false && false)) = wr by cases wr <;> rfl]
        exact ⟨h, (p38_93_2 (x1 := false) hx hs rfl q r.1.2.1 r.2.2.1 (by rw [hW.1]; omega) (by omega) (by rw [hW.1]; omega)).trans (p38_117_1 hx hs), r, zRf_rf p h⟩
/-- the point * -/
def zlst (O : zOt) (W : List (Nat × Nat)) (b : Bool) : Nat := if b = true ∧ W.length ≠ 0 then zPn O W W.length else W.length
theorem zlst_b {O : zOt} {W : List (Nat × Nat)} {h : zH} {m : zMm} {s : Nat} {b : Bool} (hW : zWv h m O s W) : zlst O W b < 10000 := by
  unfold zlst
  have := hW.2.1
  split
  · rename_i q
    exact (hW.2.2 (W.length - 1) (by omega)).2.2.2.2.2.2.2.1.1
  · omega
theorem s38 (hx : zFx h) (hs : s < 3) (hl : zLm m s len c) (hW : zWv h m O s W) (r : zRr h p s len a bd wr) {b : Bool} : ∃ h' v a' bd', zCl (zPr L xs) 38 [.ref p, .int (nI b.toNat)] (zMH h m) = some (.inl (some (.int (nI v))), zMH h' m) ∧ (v < 10000 ∧ a ≤ a') ∧ zRr h' p s len a' bd' (wr || zpC v W.length b) ∧ zRf p 0 0 h h' ∧ (bd = true → bd' = true) ∧ (match zpt c a with
    | some (o, e) => v = o.getD (zlst O W b) ∧ a' = e ∧ bd' = bd
    | none => bd' = true ∨ zdig (c a') = true) := by
  have b5 : 154 ≤ p := by have := r.1.1.1; omega
  have hc := zLm_ch hl r.1.2.2.2
  rw [en_38]
  obtain ⟨h1, e1, r1, f1⟩ := s40 (L := L) (xs := xs) hx hs hl r (x := 42) (by decide) (by decide)
  have hx1 := zFx_rf hx f1
  have W1 := zWv_rf hx hs r.1.2.1 f1 hW
  unfold zpt
  by_cases q : c a = 42
  · rw [if_pos q] at r1 ⊢
    rw [decide_eq_true q] at e1
    have e64 := s64 (L := L) (xs := xs) (b := b) hx1 hs W1
    have lb := zlst_b (b := b) hW
    obtain ⟨h2, e2, r2, f2⟩ := s38w (L := L) (xs := xs) hx1 hs W1 r1 (b := b) (v := zlst O W b) lb (w3 := .unset) (w4 := .unset)
    exact ⟨h2, _, _, _, (p38_0_1 hx hs r.1.2.1 (y1 := true) e1 hx1 rfl r1.1.2.1 r1.2.2.1 e64).trans e2, ⟨lb, Nat.le_succ a⟩, r2, zRf_tr f1 f2, fun z => z, rfl, rfl, rfl⟩
  · rw [if_neg q] at r1 ⊢
    rw [decide_eq_false q] at e1
    obtain ⟨h2, e2, r2, f2, l2⟩ := s38d (L := L) (xs := xs) (b := b) hs hl 3 0 0 a h1 hx1 r1 rfl (by decide)
    have hx2 := zFx_rf hx1 f2
    have W2 := zWv_rf hx1 hs r1.1.2.1 f2 W1
    have dr := (zdn_re hc 3 a)
    have z1 := (p38_0_2 (L := L) (xs := xs) hx hs r.1.2.1 (y1 := false) e1 hx1 rfl).trans e2
    rw [Nat.zero_add] at z1
    by_cases n0 : zdn c 3 a = 0
    · have st := p38_84_1 (L := L) (xs := xs) (m := m) (x1 := b) (x2 := zdv c (zdn c 3 a) a 0) (x3 := zdn c 3 a) (w4 := .val (.int (nI (zdn c 3 a)))) hx2 hs n0 r2.1.2.1 b5
      have r3 := zRr_bd r2
      have f3 := zRf_sI p h2 (g := 254) (nI 1) (Or.inr (Or.inl rfl))
      have hx3 := zFx_rf hx2 f3
      obtain ⟨h4, e4, r4, f4⟩ := s38w (L := L) (xs := xs) hx3 hs (zWv_rf hx2 hs r2.1.2.1 f3 W2) r3 (b := b) (v := zdv c (zdn c 3 a) a 0) (by omega) (w3 := .val (.int (nI (zdn c 3 a)))) (w4 := .val (.int (nI (zdn c 3 a))))
      refine ⟨h4, _, _, _, z1.trans (st.trans e4), ⟨by omega, Nat.le_add_right _ _⟩, r4, zRf_tr (zRf_tr (zRf_tr f1 f2) f3) f4, fun _ => rfl, ?_⟩
      rw [dr.2] at n0
      rw [if_neg (fun z => by split at n0 <;> omega)]
      exact Or.inl rfl
    · have st := p38_84_2 (L := L) (xs := xs) (m := m) (p := p) (x1 := b) (x2 := zdv c (zdn c 3 a) a 0) (x3 := zdn c 3 a) (w4 := .val (.int (nI (zdn c 3 a)))) hx2 hs n0 (by rw [dr.2]; split <;> omega)
      obtain ⟨h4, e4, r4, f4⟩ := s38w (L := L) (xs := xs) hx2 hs W2 r2 (b := b) (v := zdv c (zdn c 3 a) a 0) (by omega) (w3 := .val (.int (nI (zdn c 3 a)))) (w4 := .val (.int (nI (zdn c 3 a))))
      refine ⟨h4, _, _, _, z1.trans (st.trans e4), ⟨by omega, Nat.le_add_right _ _⟩, r4, zRf_tr (zRf_tr f1 f2) f4, fun z => z, ?_⟩
      by_cases g : a < zre zdig c a ∧ zre zdig c a - a ≤ 3
      · rw [if_pos g]
        have n1 : zdn c 3 a = zre zdig c a - a := by rw [dr.2]; split <;> omega
        rw [n1]
        exact ⟨rfl, by omega, rfl⟩
      · rw [if_neg g]
        right
        have n1 : zdn c 3 a = 3 := by rw [dr.2] at n0 ⊢; split at n0 <;> split <;> omega
        have d4 := (zdn_re hc 4 a).2
        rw [if_pos (by rw [dr.2] at n1 n0; split at n1 <;> omega)] at d4
        rw [n1]
        exact zdn_all 4 a d4 3 (by decide)
end
