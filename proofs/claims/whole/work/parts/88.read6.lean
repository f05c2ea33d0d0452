/-! ===== the class's reader: mailboxes, changes, items, rows of flags ===== -/
section
variable {L : Nat} {xs : Nat → Int32} {h : zH} {m : zMm} {p s len a : Nat} {bd wr : Bool} {c : Nat → Nat}
theorem s28 (hx : zFx h) (hs : s < 3) (hl : zLm m s len c) (r : zRr h p s len a bd wr) : ∃ h', zCl (zPr L xs) 28 [.ref p] (zMH h m) = some (.inl (some (.int (nI (if 97 ≤ c a ∧ c a ≤ 100 then c a - 97 else 0)))), zMH h' m) ∧ zRr h' p s len (if 97 ≤ c a ∧ c a ≤ 100 then a + 1 else a) (bd || !decide (97 ≤ c a ∧ c a ≤ 100)) wr ∧ zRf p 0 0 h h' := by
  have cl := hl.2 a
  have e39 := s39 (L := L) (xs := xs) hx hs hl r
  have b1 : 154 ≤ p := by have := r.1.1.1; omega
  rw [en_28]
  by_cases q : 97 ≤ c a ∧ c a ≤ 100
  · rw [if_pos q, if_pos q, decide_eq_true q, show (bd || !true) = bd by cases bd <;> rfl]
    have al : a < len := Nat.lt_of_not_le fun z => by have := hl.1 a; rw [if_neg (by omega)] at this; omega
    exact ⟨_, p28_0_2 hx hs r.1.2.1 e39 q.1 (by omega) r.2.2.2.2.1 (by omega) b1 q.1, zRr_at r (by omega), zRf_sI p h _ (Or.inl rfl)⟩
  · rw [if_neg q, if_neg q, decide_eq_false q, show (bd || !false) = true by cases bd <;> rfl]
    refine ⟨_, ?_, zRr_bd r, zRf_sI p h _ (Or.inr (Or.inl rfl))⟩
    by_cases q1 : 97 ≤ c a
    · exact p28_0_1 hx hs r.1.2.1 e39 q1 (by omega) (by omega) b1
    · exact p28_0_3 hx hs r.1.2.1 e39 (by omega) (by omega) b1
theorem s29 (hx : zFx h) (hs : s < 3) (hl : zLm m s len c) (r : zRr h p s len a bd wr) : ∃ h', zCl (zPr L xs) 29 [.ref p] (zMH h m) = some (.inl (some (.int (nI (zsgn (c a))))), zMH h' m) ∧ zRr h' p s len (if zsgn (c a) = 0 then a else a + 1) bd wr ∧ zRf p 0 0 h h' := by
  rw [en_29]
  obtain ⟨h1, e1, r1, f1⟩ := s40 (L := L) (xs := xs) hx hs hl r (x := 43) (by decide) (by decide)
  have hx1 := zFx_rf hx f1
  unfold zsgn
  by_cases q : c a = 43
  · rw [if_pos q] at r1 ⊢
    rw [decide_eq_true q] at e1
    rw [if_neg (by decide)]
    exact ⟨h1, p29_0_1 hx hs r.1.2.1 (y1 := true) e1 hx1 rfl, r1, f1⟩
  · rw [if_neg q] at r1 ⊢
    rw [decide_eq_false q] at e1
    obtain ⟨h2, e2, r2, f2⟩ := s40 (L := L) (xs := xs) hx1 hs hl r1 (x := 45) (by decide) (by decide)
    have hx2 := zFx_rf hx1 f2
    by_cases q2 : c a = 45
    · rw [if_pos q2] at r2 ⊢
      rw [decide_eq_true q2] at e2
      rw [if_neg (by decide)]
      exact ⟨h2, p29_0_2 hx hs r.1.2.1 (y1 := false) e1 hx1 rfl r1.1.2.1 (y2 := true) e2 hx2 rfl, r2, zRf_tr f1 f2⟩
    · rw [if_neg q2] at r2 ⊢
      rw [decide_eq_false q2] at e2
      rw [if_pos rfl]
      exact ⟨h2, p29_0_3 hx hs r.1.2.1 (y1 := false) e1 hx1 rfl r1.1.2.1 (y2 := false) e2 hx2 rfl, r2, zRf_tr f1 f2⟩
theorem s30 (hx : zFx h) (hs : s < 3) (hl : zLm m s len c) (r : zRr h p s len a bd wr) : ∃ h', zCl (zPr L xs) 30 [.ref p] (zMH h m) = some (.inl (some (.int (nI (if zmw c a [70, 76, 65, 71, 83] = true then 0 else if zmw c a [85, 73, 68] = true then 1 else 2)))), zMH h' m) ∧ zRr h' p s len (if zmw c a [70, 76, 65, 71, 83] = true then a + 5 else if zmw c a [85, 73, 68] = true then a + 3 else if zmw c a [84, 69, 88, 84] = true then a + 4 else a) (bd || !(zmw c a [70, 76, 65, 71, 83] || zmw c a [85, 73, 68] || zmw c a [84, 69, 88, 84])) wr ∧ zRf p 0 0 h h' := by
  rw [en_30]
  have b1 : 154 ≤ p := by have := r.1.1.1; omega
  obtain ⟨h1, e1, r1, f1⟩ := s42 (L := L) (xs := xs) hx hs hl r (q := 22) (zSt_k hx (by decide)) (by decide)
  have hx1 := zFx_rf hx f1
  have e1 : zCl (zPr L xs) 42 [.ref p, .ref 22] (zMH h m) = some (.inl (some (.int (nI (zmw c a [70, 76, 65, 71, 83]).toNat))), zMH h1 m) := e1
  have r1 : zRr h1 p s len (if zmw c a [70, 76, 65, 71, 83] = true then a + 5 else a) bd wr := r1
  cases q1 : zmw c a [70, 76, 65, 71, 83] with
  | true =>
    rw [q1] at e1 r1
    rw [if_pos rfl] at r1
    rw [if_pos rfl, if_pos rfl, show (bd || !(true || zmw c a [85, 73, 68] || zmw c a [84, 69, 88, 84])) = bd by cases bd <;> rfl]
    exact ⟨h1, p30_0_1 hx hs r.1.2.1 (y1 := true) e1 hx1 rfl, r1, f1⟩
  | false =>
    rw [q1] at e1 r1
    rw [if_neg Bool.noConfusion] at r1
    rw [if_neg (show ¬ false = true from Bool.noConfusion), if_neg (show ¬ false = true from Bool.noConfusion)]
    obtain ⟨h2, e2, r2, f2⟩ := s42 (L := L) (xs := xs) hx1 hs hl r1 (q := 23) (zSt_k hx1 (by decide)) (by decide)
    have hx2 := zFx_rf hx1 f2
    have e2 : zCl (zPr L xs) 42 [.ref p, .ref 23] (zMH h1 m) = some (.inl (some (.int (nI (zmw c a [85, 73, 68]).toNat))), zMH h2 m) := e2
    have r2 : zRr h2 p s len (if zmw c a [85, 73, 68] = true then a + 3 else a) bd wr := r2
    cases q2 : zmw c a [85, 73, 68] with
    | true =>
      rw [q2] at e2 r2
      rw [if_pos rfl] at r2
      rw [if_pos rfl, if_pos rfl, show (bd || !(false || true || zmw c a [84, 69, 88, 84])) = bd by cases bd <;> rfl]
      exact ⟨h2, p30_0_2 hx hs r.1.2.1 (y1 := false) e1 hx1 rfl r1.1.2.1 (y2 := true) e2 hx2 rfl, r2, zRf_tr f1 f2⟩
    | false =>
      rw [q2] at e2 r2
      rw [if_neg Bool.noConfusion] at r2
      rw [if_neg (show ¬ false = true from Bool.noConfusion), if_neg (show ¬ false = true from Bool.noConfusion)]
      obtain ⟨h3, e3, r3, f3⟩ := s42 (L := L) (xs := xs) hx2 hs hl r2 (q := 24) (zSt_k hx2 (by decide)) (by decide)
      have hx3 := zFx_rf hx2 f3
      have e3 : zCl (zPr L xs) 42 [.ref p, .ref 24] (zMH h2 m) = some (.inl (some (.int (nI (zmw c a [84, 69, 88, 84]).toNat))), zMH h3 m) := e3
      have r3 : zRr h3 p s len (if zmw c a [84, 69, 88, 84] = true then a + 4 else a) bd wr := r3
      cases q3 : zmw c a [84, 69, 88, 84] with
      | true =>
        rw [q3] at e3 r3
        rw [if_pos rfl] at r3
        rw [if_pos rfl, show (bd || !(false || false || true)) = bd by cases bd <;> rfl]
        exact ⟨h3, p30_0_4 hx hs r.1.2.1 (y1 := false) e1 hx1 rfl r1.1.2.1 (y2 := false) e2 hx2 rfl r2.1.2.1 (y3 := true) e3 hx3 rfl, r3, zRf_tr (zRf_tr f1 f2) f3⟩
      | false =>
        rw [q3] at e3 r3
        rw [if_neg Bool.noConfusion] at r3
        rw [if_neg (show ¬ false = true from Bool.noConfusion), show (bd || !(false || false || false)) = true by cases bd <;> rfl]
        exact ⟨_, p30_0_3 hx hs r.1.2.1 (y1 := false) e1 hx1 rfl r1.1.2.1 (y2 := false) e2 hx2 rfl r2.1.2.1 (y3 := false) e3 hx3 rfl r3.1.2.1 b1, zRr_bd r3, zRf_tr (zRf_tr (zRf_tr f1 f2) f3) (zRf_sI p h3 _ (Or.inr (Or.inl rfl)))⟩
theorem zbit_16 (x : Nat) : zbit x < 16 := by
  have := zbit_le x
  omega
theorem zor_16 {x y : Nat} (hx : x < 16) (hy : y < 16) : x ||| y < 16 := Nat.or_lt_two_pow (n := 4) hx hy
theorem s31 (hx : zFx h) (hs : s < 3) (hl : zLm m s len c) (r : zRr h p s len a bd wr) : ∃ h' v a' bd', zCl (zPr L xs) 31 [.ref p] (zMH h m) = some (.inl (some (.int (nI v))), zMH h' m) ∧ v < 16 ∧ zRr h' p s len a' bd' wr ∧ zRf p 0 0 h h' ∧ (bd = true → bd' = true) ∧ (bd = false → match zfls c a with
    | some (f, e) => bd' = false ∧ v = f ∧ a' = e
    | none => bd' = true) := by
  have hc := zLm_ch hl r.1.2.2.2
  have b1 : 154 ≤ p := by have := r.1.1.1; omega
  rw [en_31]
  obtain ⟨h1, e1, r1, f1⟩ := s41 (L := L) (xs := xs) hx hs hl r (x := 40) (by decide) (by decide)
  have hx1 := zFx_rf hx f1
  have st0 := p31_0_1 (L := L) (xs := xs) hx hs r.1.2.1 e1 hx1
  -- bad already
  have bad : ∀ (v i b : Nat) (h : zH), zFx h → v < 16 → i ≤ 48 → zRr h p s len b true wr → ∃ h' b', zEv (zPr L xs) 5 31 10 [.val (.ref p), .val (.int (nI v)), .val (.int (nI i))] [] (zMH h m) = some (.inl (some (.int (nI v))), zMH h' m) ∧ zRr h' p s len b' true wr ∧ zRf p 0 0 h h' := by
    intro v i b h hx hv hi r
    obtain ⟨h2, e2, r2, f2⟩ := s41 (L := L) (xs := xs) hx hs hl r (x := 41) (by decide) (by decide)
    have hx2 := zFx_rf hx f2
    refine ⟨h2, _, ?_, r2, f2⟩
    by_cases l : i < 48
    · exact p31_10_3 hx hs l r.1.2.1 r.2.2.2.2.2.1 (by decide) e2 hx2 (by omega) b1 (by decide)
    · exact p31_10_4 hx hs (by omega) r.1.2.1 e2 hx2 (by omega)
  have good : ∀ (f v i b : Nat) (h : zH), zFx h → v < 16 → i < b → f + b = 49 → zRr h p s len b false wr → ∃ h' v' a' bd', zEv (zPr L xs) 5 31 10 [.val (.ref p), .val (.int (nI v)), .val (.int (nI i))] [] (zMH h m) = some (.inl (some (.int (nI v'))), zMH h' m) ∧ v' < 16 ∧ zRr h' p s len a' bd' wr ∧ zRf p 0 0 h h' ∧ (if c (zre zflg c b) = 41 then bd' = false ∧ v' = zmk c (zre zflg c b - b) b v ∧ a' = zre zflg c b + 1 else bd' = true) := by
    intro f
    induction f with
    | zero => intro v i b h hx hv hi hf r; have := r.1.2.2; omega
    | succ f ih =>
      intro v i b h hx hv hi hf r
      have h48 := r.1.2.2
      have e39 := s39 (L := L) (xs := xs) hx hs hl r
      have cl := hl.2 b
      have bf := r.2.2.2.2.2.1
      by_cases q : c b = 41
      · obtain ⟨h2, e2, r2, f2⟩ := s41 (L := L) (xs := xs) hx hs hl r (x := 41) (by decide) (by decide)
        rw [if_pos q, decide_eq_true q] at r2
        have z : zre zflg c b = b := zre_f (by rw [q]; rfl)
        exact ⟨h2, v, _, _, p31_10_2 hx hs (by omega) r.1.2.1 bf rfl e39 q e2 (zFx_rf hx f2) (by omega) b1, hv, r2, f2, by rw [z, if_pos q, Nat.sub_self]; exact ⟨rfl, rfl, rfl⟩⟩
      · obtain ⟨h2, e2, r2, f2⟩ := s32 (L := L) (xs := xs) hx hs hl r
        have hx2 := zFx_rf hx f2
        have st := p31_10_1 (L := L) (xs := xs) (m := m) (s := s) (p := p) (x1 := v) (x2 := i) hx hs (by omega) r.1.2.1 bf rfl e39 q e2 hx2 (by omega) b1 (by omega)
        by_cases y : zbit (c b) = 0
        · rw [if_pos y, decide_eq_true y] at r2
          have z : zre zflg c b = b := zre_f (by unfold zflg; exact decide_eq_false (fun g => g y))
          obtain ⟨h3, b', e3, r3, f3⟩ := bad (v ||| zbit (c b)) (i + 1) b h2 hx2 (zor_16 hv (zbit_16 _)) (by omega) r2
          exact ⟨h3, _, b', true, st.trans e3, zor_16 hv (zbit_16 _), r3, zRf_tr f2 f3, by rw [z, if_neg q]⟩
        · rw [if_neg y, decide_eq_false y] at r2
          have z : zre zflg c b = zre zflg c (b + 1) := zre_t hc rfl (by unfold zflg; exact decide_eq_true y)
          have ge := (zre_ge (f := zflg) hc rfl (b + 1)).1
          obtain ⟨h3, v', a', bd', e3, l3, r3, f3, g3⟩ := ih (v ||| zbit (c b)) (i + 1) (b + 1) h2 hx2 (zor_16 hv (zbit_16 _)) (by omega) (by omega) r2
          refine ⟨h3, v', a', bd', st.trans e3, l3, r3, zRf_tr f2 f3, ?_⟩
          rw [z]
          have mk : zmk c (zre zflg c (b + 1) - b) b v = zmk c (zre zflg c (b + 1) - (b + 1)) (b + 1) (v ||| zbit (c b)) := by
            rw [show zre zflg c (b + 1) - b = (zre zflg c (b + 1) - (b + 1)) + 1 by omega]
            rfl
          rw [mk]
          exact g3
  cases hbd : bd with
  | true =>
    rw [hbd, Bool.true_or] at r1
    obtain ⟨h2, b', e2, r2, f2⟩ := bad 0 0 _ h1 hx1 (by decide) (by decide) r1
    exact ⟨h2, 0, b', true, st0.trans e2, by decide, r2, zRf_tr f1 f2, fun _ => rfl, fun z => by cases z⟩
  | false =>
    rw [hbd, Bool.false_or] at r1
    unfold zfls
    by_cases q : c a = 40
    · rw [if_pos q, decide_eq_true q] at r1
      obtain ⟨h2, v', a', bd', e2, l2, r2, f2, g2⟩ := good (48 - a) 0 0 (a + 1) h1 hx1 (by decide) (by omega) (by have := r.1.2.2; omega) r1
      refine ⟨h2, v', a', bd', st0.trans e2, l2, r2, zRf_tr f1 f2, fun z => (by cases z), fun _ => ?_⟩
      by_cases g : c (zre zflg c (a + 1)) = 41
      · rw [if_pos g] at g2
        rw [if_pos ⟨q, g⟩]
        exact g2
      · rw [if_neg g] at g2
        rw [if_neg (fun z => g z.2)]
        exact g2
    · rw [if_neg q, decide_eq_false q] at r1
      obtain ⟨h2, b', e2, r2, f2⟩ := bad 0 0 _ h1 hx1 (by decide) (by decide) r1
      refine ⟨h2, 0, b', true, st0.trans e2, by decide, r2, zRf_tr f1 f2, fun _ => rfl, fun _ => ?_⟩
      rw [if_neg (fun z => q z.1)]
end
