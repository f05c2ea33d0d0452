/-- flags that were not told -/
def ztF (O : zOt) : Nat → List (Nat × Nat) → List (Nat × Nat) × List Nat
  | _, [] => ([], [])
  | n, v :: V => if (O v.1).2.2.1 = false ∧ (O v.1).2.1 ≠ v.2 then ((v.1, (O v.1).2.1) :: (ztF O (n + 1) V).1, zft n (O v.1).2.1 ++ (ztF O (n + 1) V).2) else (v :: (ztF O (n + 1) V).1, (ztF O (n + 1) V).2)
/-- what is told: the view, the reply, the newest -/
def ztC (O : zOt) (S : List Nat) (g : Bool) (V : List (Nat × Nat)) (n : Nat) : List (Nat × Nat) × List Nat × Nat :=
  let a := if g = true then ztG O 1 V else (V, [])
  let b := ztN O S a.1 n
  let d := ztF O 1 b.1
  (d.1, a.2 ++ (if a.1.length < b.1.length then zex b.1.length else []) ++ d.2, b.2)
theorem zex_s (n : Nat) : [42, 32] ++ zds n ++ zByt.getD (30 - 20) [] ++ [10] = zex n := by
  unfold zex
  simp only [List.append_assoc]
  rfl
theorem zHf_355 {h h' : zH} {c k s : Nat} (hx : zFx h) (hs : s < 3) (f : zHf c k h h') : zR h' 355 (111 + 7 * s) 0 = zR h 355 (111 + 7 * s) 0 := by
  have : ∀ s, s < 3 → zfT (111 + 7 * s) = 7 := by decide
  have t := (hx.2.1 (111 + 7 * s) (by omega) (by omega)).1.trans (this s hs)
  exact (f.2.2 _ _ _ (by have := hx.1; omega) (by rw [t]; decide) (by rw [t]; decide)).2.1
section
variable {L : Nat} {xs : Nat → Int32} {O : zOt} {R : Nat → List Nat} {W : Nat → List (Nat × Nat)}
theorem s53 {h : zH} {m : zMm} {s b : Nat} (hs : s < 3) (hb : b < 4) (z : zGl h m O R W) (hq : zR h 355 (111 + 7 * s) 0 = some (102 + 2 * b)) (hm : m 356 (111 + 7 * s) 0 < 2) : ∃ h' m', zCl (zPr L xs) 53 [.ref (111 + 7 * s)] (zMH h m) = some (.inl none, zMH h' m') ∧ zHf 0 0 h h' ∧ zCf (fun g a => g = 154 ∧ a = 102 + 2 * b) m m' ∧ zGl h' m' (if m 356 (111 + 7 * s) 0 ≠ 0 then zGx O (R b) else O) (zup R b (if m 356 (111 + 7 * s) 0 ≠ 0 then (R b).filter (zgo1 O) else R b)) W := by
  rw [en_53]
  by_cases q : m 356 (111 + 7 * s) 0 = 0
  · refine ⟨h, m, p53_0_2 z.1 hs hb hq q, zHf_rf h, zCf_rf _ _, ?_⟩
    rw [if_neg (fun e => e q), if_neg (fun e => e q), zup_id]
    exact z
  · obtain ⟨h', m', e, f, g, z'⟩ := s22 (L := L) (xs := xs) hb z
    refine ⟨h', m', p53_0_1 z.1 hs hb hq q e z'.1 (by omega), f, g, ?_⟩
    rw [if_pos q, if_pos q]
    exact z'
theorem s53n {h : zH} {m : zMm} {s : Nat} (hs : s < 3) (hx : zFx h) (hq : zR h 355 (111 + 7 * s) 0 = none) : zCl (zPr L xs) 53 [.ref (111 + 7 * s)] (zMH h m) = some (.inl none, zMH h m) := by
  rw [en_53]
  exact p53n_0_1 hx hs hq
theorem zGl_355 {h : zH} {m : zMm} {s : Nat} {x : Option Nat} (hs : s < 3) (z : zGl h m O R W) : zGl (zsR h 355 (111 + 7 * s) 0 x) m O R W := by
  have : ∀ s, s < 3 → zfT (111 + 7 * s) = 7 := by decide
  have t := (z.1.2.1 (111 + 7 * s) (by omega) (by omega)).1.trans (this s hs)
  exact zGl_h z (zFx_sRg z.1 (by decide)) (fun b i _ => zsR_g (by decide)) (fun s i _ => zsR_g (by decide)) fun o ho => zMf_ob z.1 (zMf_R (by rw [t]; decide)) ho
theorem zGl_q {h : zH} {m m' : zMm} {P : Nat → Nat → Prop} (z : zGl h m O R W) (f : zCf P m m') (h1 : ∀ b, b < 4 → ¬ P 154 (102 + 2 * b)) (h2 : ∀ s, s < 3 → ¬ P 402 (115 + 7 * s) ∧ ¬ P 0 (117 + 7 * s)) : zGl h m' O R W := zGl_m z (fun b hb => f _ _ _ (h1 b hb)) fun s hs => ⟨f _ _ _ (h2 s hs).1, fun i => f _ _ _ (h2 s hs).2⟩
theorem s52 {h : zH} {m : zMm} {s : Nat} (hs : s < 3) (z : zGl h m O R W) : ∃ m', zCl (zPr L xs) 52 [.ref (111 + 7 * s)] (zMH h m) = some (.inl none, zMH (zsR h 355 (111 + 7 * s) 0 none) m') ∧ m' 356 (111 + 7 * s) 0 = 0 ∧ zCf (fun g a => (g = 356 ∧ a = 111 + 7 * s) ∨ ((g = 402 ∨ g = 403) ∧ a = 115 + 7 * s)) m m' ∧ zGl (zsR h 355 (111 + 7 * s) 0 none) m' O R (zup W s []) := by
  have z1 := zGl_355 (x := none) hs z
  have f1 : zCf (fun g a => g = 356 ∧ a = 111 + 7 * s) m (u3 m 356 (111 + 7 * s) 0 0) := zCf_u (zCf_rf _ _) ⟨rfl, rfl⟩
  have z2 := zGl_q z1 f1 (fun b hb e => by cases e.1) fun s hs => ⟨fun e => (by cases e.1), fun e => (by cases e.1)⟩
  obtain ⟨m1, e1, n1, f2, z3⟩ := s62 (L := L) (xs := xs) hs z2
  rw [en_52]
  refine ⟨m1, p52_0_1 z.1 hs e1, ?_, zCf_tr (zCf_w f1 fun g a e => Or.inl e) (zCf_w f2 fun g a e => Or.inr e), z3⟩
  exact (f2 _ _ _ fun e => by omega).trans (u3_eq _ _ _ _ _)
theorem s58n {h : zH} {m : zMm} {s : Nat} {g : Bool} (hs : s < 3) (hx : zFx h) (hq : zR h 355 (111 + 7 * s) 0 = none) : zCl (zPr L xs) 58 [.ref (111 + 7 * s), .int (nI g.toNat)] (zMH h m) = some (.inl none, zMH h m) := by
  rw [en_58]
  exact p58n_0_1 hx hs hq
theorem s58l {s b : Nat} {w : Slot} (hs : s < 3) (hb : b < 4) : ∀ (S K : List (Nat × Nat)) (h : zH) (m : zMm), zcL m s ≤ 1024 → zGl h m O R (zup W s (K ++ S)) → ∃ m', zEv (zPr L xs) 8 58 48 [.val (.ref (111 + 7 * s)), w, .val (.int (nI K.length))] [] (zMH h m) = some (.inl none, zMH h m') ∧ zCf (zVq s) m m' ∧ m' 403 (115 + 7 * s) 0 = m 403 (115 + 7 * s) 0 ∧ zRy s m m' (ztF O (K.length + 1) S).2 ∧ zGl h m' O R (zup W s (K ++ (ztF O (K.length + 1) S).1)) := by
  intro S
  induction S with
  | nil =>
    intro K h m hr z
    obtain ⟨w1, w2, w3⟩ := z.2.2 s hs
    rw [zup_eq, List.append_nil] at w1 w2
    exact ⟨m, p58_48_4 z.1 hs hb (by omega) (by omega) (by omega), zCf_rf _ _, rfl, zRy_rf hr, z⟩
  | cons x S ih =>
    intro K h m hr z
    obtain ⟨w1, w2, w3⟩ := z.2.2 s hs
    rw [zup_eq] at w1 w2 w3
    have ln : (K ++ x :: S).length = K.length + 1 + S.length := by simp only [List.length_append, List.length_cons]; omega
    rw [ln] at w1 w2 w3
    have gi : (K ++ x :: S).getD K.length (0, 0) = x := by
      rw [List.getD_eq_getElem?_getD, List.getElem?_append_right (Nat.le_refl _), Nat.sub_self]
      rfl
    obtain ⟨c1, c2, c3, ob⟩ := w3 K.length (by omega)
    unfold zWo at c1 ob
    unfold zWt at c2 c3
    rw [gi] at c1 c2 c3 ob
    have o4 := ob.1
    have of := ob.2.2.2.2.1.2
    have l1 : ∀ y : Nat × Nat, (K ++ [y]).length = K.length + 1 := fun y => by rw [List.length_append]; rfl
    have gn := ob.2.2.2.1
    have skip : ¬ ((O x.1).2.2.1 = false ∧ (O x.1).2.1 ≠ x.2) → zEv (zPr L xs) 8 58 48 [.val (.ref (111 + 7 * s)), w, .val (.int (nI K.length))] [] (zMH h m) = zEv (zPr L xs) 8 58 48 [.val (.ref (111 + 7 * s)), w, .val (.int (nI (K.length + 1)))] [] (zMH h m) → ∃ m', zEv (zPr L xs) 8 58 48 [.val (.ref (111 + 7 * s)), w, .val (.int (nI K.length))] [] (zMH h m) = some (.inl none, zMH h m') ∧ zCf (zVq s) m m' ∧ m' 403 (115 + 7 * s) 0 = m 403 (115 + 7 * s) 0 ∧ zRy s m m' (ztF O (K.length + 1) (x :: S)).2 ∧ zGl h m' O R (zup W s (K ++ (ztF O (K.length + 1) (x :: S)).1)) := fun q st => by
      obtain ⟨m', e, f, g3, g4, g5⟩ := ih (K ++ [x]) h m hr (by rw [List.append_assoc]; exact z)
      rw [l1] at e g4 g5
      refine ⟨m', st.trans e, f, g3, ?_, ?_⟩ <;> unfold ztF <;> rw [if_neg q]
      · exact g4
      · rw [List.append_assoc] at g5
        exact g5
    cases q1 : (O x.1).2.2.1 with
    | true =>
      rw [q1] at gn
      exact skip (fun e => by rw [q1] at e; cases e.1) (p58_48_3 (x3 := 1) z.1 hs hb (by omega) c1 o4.2.2 gn (by decide) (by omega) (by omega) (by omega) (by omega) (by omega))
    | false =>
      rw [q1] at gn
      by_cases q2 : (O x.1).2.1 = x.2
      · exact skip (fun e => e.2 q2) (p58_48_2 (x3 := 0) z.1 hs hb (by omega) c1 o4.2.2 gn rfl c1 o4.2.2 ob.2.2.1 (by rw [c2]; exact q2) (by omega) (by omega) (by omega) (by omega) (by omega))
      · have wo : zWo (K ++ x :: S) K.length = x.1 := by
          unfold zWo
          rw [gi]
        obtain ⟨m1, e1, f1, g2, g3, g4, z2⟩ := s60 (L := L) (xs := xs) hs z (p := K.length) (by rw [zup_eq, ln]; omega) hr
        rw [zup_eq, wo, zup_up] at z2
        rw [zup_eq, wo] at g4
        have hset : (K ++ x :: S).set K.length (x.1, (O x.1).2.1) = (K ++ [(x.1, (O x.1).2.1)]) ++ S := by simp
        rw [hset] at z2
        obtain ⟨m', e, f, h3, h4, h5⟩ := ih (K ++ [(x.1, (O x.1).2.1)]) h m1 g4.1 z2
        rw [l1] at e h4 h5
        have st := p58_48_1 (L := L) (xs := xs) (m := m) (b := b) (w1 := w) (x3 := 0) z.1 hs hb (by omega) c1 o4.2.2 gn rfl c1 o4.2.2 ob.2.2.1 (by rw [c2]; exact q2) e1 z.1 (by omega) (by omega) (by omega) (by omega) (by omega) (by omega) (by omega)
        refine ⟨m', st.trans e, zCf_tr f1 f, h3.trans g3, ?_, ?_⟩ <;> unfold ztF <;> rw [if_pos ⟨q1, q2⟩]
        · exact zRy_tr g4 h4
        · rw [List.append_assoc] at h5
          exact h5
theorem s58 {h : zH} {m : zMm} {s b : Nat} {g : Bool} (hs : s < 3) (hb : b < 4) (z : zGl h m O R W) (hq : zR h 355 (111 + 7 * s) 0 = some (102 + 2 * b)) (hr : zcL m s ≤ 1024) (hn : m 403 (115 + 7 * s) 0 < 10000) : ∃ h' m', zCl (zPr L xs) 58 [.ref (111 + 7 * s), .int (nI g.toNat)] (zMH h m) = some (.inl none, zMH h' m') ∧ zHf 0 0 h h' ∧ zCf (zVq s) m m' ∧ m' 403 (115 + 7 * s) 0 = (ztC O (R b) g (W s) (m 403 (115 + 7 * s) 0)).2.2 ∧ m' 403 (115 + 7 * s) 0 < 10000 ∧ zRy s m m' (ztC O (R b) g (W s) (m 403 (115 + 7 * s) 0)).2.1 ∧ zGl h' m' O R (zup W s (ztC O (R b) g (W s) (m 403 (115 + 7 * s) 0)).1) := by
  generalize hn0 : m 403 (115 + 7 * s) 0 = n at hn
  have tail : ∀ (V : List (Nat × Nat)) (t : List Nat) (h1 : zH) (m1 : zMm), zHf 0 0 h h1 → zCf (zVq s) m m1 → m1 403 (115 + 7 * s) 0 = n → zRy s m m1 t → zGl h1 m1 O R (zup W s V) → (∀ (y : Bool) h2 m2, zFx h2 → zCl (zPr L xs) 63 [.ref (115 + 7 * s), .ref (102 + 2 * b)] (zMH h1 m1) = some (.inl (some (.int (nI y.toNat))), zMH h2 m2) → (∀ m3, y = true → zCl (zPr L xs) 48 [.ref (113 + 7 * s), .int (nI (m2 402 (115 + 7 * s) 0)), .ref 30] (zMH h2 m2) = some (.inl none, zMH h2 m3) → zEv (zPr L xs) 8 58 0 [.val (.ref (111 + 7 * s)), .val (.int (nI g.toNat)), .unset] [] (zMH h m) = zEv (zPr L xs) 8 58 48 [.val (.ref (111 + 7 * s)), .val (.int (nI g.toNat)), .val (.int (nI 0))] [] (zMH h2 m3)) ∧ (y = false → zEv (zPr L xs) 8 58 0 [.val (.ref (111 + 7 * s)), .val (.int (nI g.toNat)), .unset] [] (zMH h m) = zEv (zPr L xs) 8 58 48 [.val (.ref (111 + 7 * s)), .val (.int (nI g.toNat)), .val (.int (nI 0))] [] (zMH h2 m2))) → ∃ h' m', zEv (zPr L xs) 8 58 0 [.val (.ref (111 + 7 * s)), .val (.int (nI g.toNat)), .unset] [] (zMH h m) = some (.inl none, zMH h' m') ∧ zHf 0 0 h h' ∧ zCf (zVq s) m m' ∧ m' 403 (115 + 7 * s) 0 = (ztN O (R b) V n).2 ∧ m' 403 (115 + 7 * s) 0 < 10000 ∧ zRy s m m' (t ++ (if V.length < (ztN O (R b) V n).1.length then zex (ztN O (R b) V n).1.length else []) ++ (ztF O 1 (ztN O (R b) V n).1).2) ∧ zGl h' m' O R (zup W s (ztF O 1 (ztN O (R b) V n).1).1) := by
    intro V t h1 m1 f1 c1 n1 y1 z1 st
    obtain ⟨h2, m2, e2, f2, c2, n2, l2, z2⟩ := s63 (L := L) (xs := xs) hs hb z1 (by omega)
    rw [zup_eq, n1] at e2 n2 z2
    rw [zup_up] at z2
    have w2 := z2.2.2 s hs
    rw [zup_eq] at w2
    have c2' : zCf (zVq s) m1 m2 := zCf_w c2 fun g a e => e.elim (fun e => Or.inl e) fun e => Or.inr (Or.inl e)
    have y2 : zRy s m m2 t := ⟨by rw [(zcp_cf (s := s) c2 (by omega) (by omega)).1]; exact y1.1, by rw [(zcp_cf (s := s) c2 (by omega) (by omega)).2]; exact y1.2⟩
    have st := st _ _ _ z2.1 e2
    by_cases q : V.length < (ztN O (R b) V n).1.length
    · obtain ⟨m3, e3, y3⟩ := s48 (L := L) (xs := xs) (q := 30) (p := m2 402 (115 + 7 * s) 0) z2.1 hs y2.1 (by have := w2.1; have := w2.2.1; omega) (zSt_k z2.1 (by decide))
      rw [zex_s, w2.1] at y3
      have z3 := zGl_rp hs y3.1 z2
      obtain ⟨m4, e4, c4, n4, y4, z4⟩ := s58l (L := L) (xs := xs) (w := .val (.int (nI g.toNat))) hs hb _ [] h2 m3 y3.2.1 z3
      have n34 := n4.trans (y3.1 403 (115 + 7 * s) 0 (by intro e; rcases e with e | e <;> omega))
      refine ⟨h2, m4, (st.1 m3 (decide_eq_true q) e3).trans e4, zHf_tr f1 f2, zCf_tr (zCf_tr (zCf_tr c1 c2') (zCf_fo y3.1)) c4, n34.trans n2, by rw [n34]; exact l2, ?_, z4⟩
      rw [if_pos q]
      exact zRy_tr (zRy_tr y2 ⟨y3.2.1, y3.2.2⟩) y4
    · obtain ⟨m4, e4, c4, n4, y4, z4⟩ := s58l (L := L) (xs := xs) (w := .val (.int (nI g.toNat))) hs hb _ [] h2 m2 y2.1 z2
      refine ⟨h2, m4, (st.2 (decide_eq_false q)).trans e4, zHf_tr f1 f2, zCf_tr (zCf_tr c1 c2') c4, n4.trans n2, by rw [n4]; exact l2, ?_, z4⟩
      rw [if_neg q, List.append_nil]
      exact zRy_tr y2 y4
  rw [en_58]
  unfold ztC
  cases g with
  | true =>
    obtain ⟨h1, m1, e1, f1, c1, n1, y1, z1⟩ := s59 (L := L) (xs := xs) hs z hr
    have r1 := (zHf_355 z.1 hs f1).trans hq
    exact tail _ _ h1 m1 f1 c1 (n1.trans hn0) y1 z1 fun y h2 m2 hx2 e2 => ⟨fun m3 hy e3 => p58_0_1 z.1 hs hb hq rfl e1 z1.1 r1 e2 hx2 hy e3, fun hy => p58_0_2 z.1 hs hb hq rfl e1 z1.1 r1 e2 hx2 hy⟩
  | false =>
    exact tail (W s) [] h m (zHf_rf h) (zCf_rf _ _) hn0 (zRy_rf hr) (by rw [zup_id]; exact z) fun y h2 m2 hx2 e2 => ⟨fun m3 hy e3 => p58_0_3 z.1 hs hb hq rfl e2 hx2 hy e3, fun hy => p58_0_4 z.1 hs hb hq rfl e2 hx2 hy⟩
end
