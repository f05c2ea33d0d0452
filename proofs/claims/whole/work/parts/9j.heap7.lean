theorem zsT_s (n v x : Nat) : zex n ++ ([42, 32] ++ zds v ++ zByt.getD (32 - 20) [] ++ [10]) ++ ([42, 32] ++ zds x ++ zByt.getD (33 - 20) [] ++ [10]) = zsT n v x := by
  unfold zsT
  simp only [List.append_assoc]
  rfl
section
variable {L : Nat} {xs : Nat → Int32} {O : zOt} {R : Nat → List Nat} {W : Nat → List (Nat × Nat)}
theorem s51 {h : zH} {m : zMm} {s b : Nat} {w : Bool} (hs : s < 3) (hb : b < 4) (z : zGl h m O R W) (hr : zcL m s ≤ 1024) (hv : m 152 (102 + 2 * b) 0 < 10000) (hn : m 153 (102 + 2 * b) 0 < 10000) : ∃ h' m', zCl (zPr L xs) 51 [.ref (111 + 7 * s), .ref (102 + 2 * b), .int (nI w.toNat)] (zMH h m) = some (.inl none, zMH h' m') ∧ zHf 0 0 (zsR h 355 (111 + 7 * s) 0 (some (102 + 2 * b))) h' ∧ zCf (fun g a => (g = 356 ∧ a = 111 + 7 * s) ∨ zVq s g a) m m' ∧ m' 356 (111 + 7 * s) 0 = w.toNat ∧ m' 403 (115 + 7 * s) 0 = (ztN O (R b) [] 0).2 ∧ m' 403 (115 + 7 * s) 0 < 10000 ∧ zRy s m m' (zsT (R b).length (m 152 (102 + 2 * b) 0) (m 153 (102 + 2 * b) 0)) ∧ zGl h' m' O R (zup W s (ztN O (R b) [] 0).1) := by
  have z1 := zGl_355 (x := some (102 + 2 * b)) hs z
  have f1 : zCf (fun g a => g = 356 ∧ a = 111 + 7 * s) m (u3 m 356 (111 + 7 * s) 0 w.toNat) := zCf_u (zCf_rf _ _) ⟨rfl, rfl⟩
  have z2 := zGl_q z1 f1 (fun b hb e => by cases e.1) fun s hs => ⟨fun e => (by cases e.1), fun e => (by cases e.1)⟩
  obtain ⟨m1, e1, n1, f2, z3⟩ := s62 (L := L) (xs := xs) hs z2
  have n1' : m1 403 (115 + 7 * s) 0 < 10000 := by rw [n1]; decide
  obtain ⟨h2, m2, e2, g2, f3, n2, l2, z4⟩ := s63 (L := L) (xs := xs) hs hb z3 n1'
  rw [zup_eq, n1] at e2 n2 z4
  rw [zup_up] at z4
  have F2 : zCf (fun g a => (g = 356 ∧ a = 111 + 7 * s) ∨ zVq s g a) m m2 := zCf_tr (zCf_tr (zCf_w f1 fun g a e => Or.inl e) (zCf_w f2 fun g a e => Or.inr (Or.inl e))) (zCf_w f3 fun g a e => Or.inr (e.elim (fun e => Or.inl e) fun e => Or.inr (Or.inl e)))
  have r0 : zcL m2 s = zcL m s ∧ zcp m2 s = zcp m s := by
    have a1 := zcp_cf (s := s) f1 (fun e => by cases e.1) (fun e => by cases e.1)
    have a3 := zcp_cf (s := s) f3 (by omega) (by omega)
    have a2 := zcp_cf (s := s) f2 (by omega) (by omega)
    exact ⟨a3.1.trans (a2.1.trans a1.1), a3.2.trans (a2.2.trans a1.2)⟩
  have bx : ∀ g, (g = 152 ∨ g = 153) → m2 g (102 + 2 * b) 0 = m g (102 + 2 * b) 0 := fun g hg => F2 _ _ _ (by intro e; rcases e with e | e | e | e | e <;> omega)
  have bc := (z4.2.1 b hb).1
  have bl := (z4.2.1 b hb).2.1
  obtain ⟨m3, e3, y3⟩ := s48 (L := L) (xs := xs) (q := 30) (p := m2 154 (102 + 2 * b) 0) z4.1 hs (by rw [r0.1]; exact hr) (by omega) (zSt_k z4.1 (by decide))
  have k3 : ∀ g, m3 g (102 + 2 * b) 0 = m2 g (102 + 2 * b) 0 := fun g => y3.1 _ _ _ (by intro e; rcases e with e | e <;> omega)
  obtain ⟨m4, e4, y4⟩ := s48 (L := L) (xs := xs) (q := 32) (p := m3 152 (102 + 2 * b) 0) z4.1 hs y3.2.1 (by rw [k3, bx _ (Or.inl rfl)]; exact hv) (zSt_k z4.1 (by decide))
  have k4 : ∀ g, m4 g (102 + 2 * b) 0 = m3 g (102 + 2 * b) 0 := fun g => y4.1 _ _ _ (by intro e; rcases e with e | e <;> omega)
  obtain ⟨m5, e5, y5⟩ := s48 (L := L) (xs := xs) (q := 33) (p := m4 153 (102 + 2 * b) 0) z4.1 hs y4.2.1 (by rw [k4, k3, bx _ (Or.inr rfl)]; exact hn) (zSt_k z4.1 (by decide))
  have ya := zSy_tr (zSy_tr y3 y4) y5
  rw [k4, k3, k3, bx _ (Or.inl rfl), bx _ (Or.inr rfl), bc, zex_s, zsT_s] at ya
  rw [en_51]
  refine ⟨h2, m5, p51_0_1 z.1 hs hb e1 e2 z4.1 e3 e4 e5, g2, zCf_tr F2 (zCf_w (zCf_fo ya.1) fun g a e => Or.inr e), ?_, (ya.1 _ _ _ (by intro e; rcases e with e | e <;> omega)).trans n2, ?_, ⟨ya.2.1, by rw [ya.2.2, r0.2]⟩, zGl_rp hs ya.1 z4⟩
  · refine (ya.1 _ _ _ (by intro e; rcases e with e | e <;> omega)).trans ((f3 _ _ _ (by omega)).trans ((f2 _ _ _ (by omega)).trans (u3_eq _ _ _ _ _)))
  · rw [ya.1 403 (115 + 7 * s) 0 (by intro e; rcases e with e | e <;> omega)]
    exact l2
end
