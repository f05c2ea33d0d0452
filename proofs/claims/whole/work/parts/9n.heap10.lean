/-- FETCH at one place -/
def zEs (it : Nat) (wr : Bool) (O : zOt) (i : Nat) (v : Nat × Nat) : zOt × (Nat × Nat) × List Nat := if it = 0 then (O, (v.1, (O v.1).2.1), zft (i + 1) (O v.1).2.1) else if it = 1 then (O, v, zfu (i + 1) (O v.1).1) else ((if wr = true then zup O v.1 ((O v.1).1, (O v.1).2.1 ||| 1, (O v.1).2.2) else O), v, zfx (i + 1) (O v.1).2.2.2)
def ztE (it : Nat) (wr : Bool) (M : Nat) : zOt → Nat → List (Nat × Nat) → zOt × List (Nat × Nat) × List Nat
  | O, _, [] => (O, [], [])
  | O, i, v :: V => if M.testBit i = true then
      ((ztE it wr M (zEs it wr O i v).1 (i + 1) V).1, (zEs it wr O i v).2.1 :: (ztE it wr M (zEs it wr O i v).1 (i + 1) V).2.1, (zEs it wr O i v).2.2 ++ (ztE it wr M (zEs it wr O i v).1 (i + 1) V).2.2)
    else ((ztE it wr M O (i + 1) V).1, v :: (ztE it wr M O (i + 1) V).2.1, (ztE it wr M O (i + 1) V).2.2)
section
variable {L : Nat} {xs : Nat → Int32} {O : zOt} {R : Nat → List Nat} {W : Nat → List (Nat × Nat)}
theorem s55 {h : zH} {m : zMm} {s p M it : Nat} {wr : Bool} (hs : s < 3) (z : zGl h m O R W) (hr : zcL m s ≤ 1024) (hp : 154 ≤ p) (t1 : zT h p = 2) (v1 : zL h 108 p 0 = nL M) (v2 : zI h 107 p 0 = nI it) (hwr : m 356 (111 + 7 * s) 0 = wr.toNat) (hit : it ≤ 2) : ∃ h' m', zCl (zPr L xs) 55 [.ref (111 + 7 * s), .ref p] (zMH h m) = some (.inl none, zMH h' m') ∧ zHf 0 0 h h' ∧ zCf (zVq s) m m' ∧ m' 403 (115 + 7 * s) 0 = m 403 (115 + 7 * s) 0 ∧ zRy s m m' (ztE it wr M O 0 (W s)).2.2 ∧ zGl h' m' (ztE it wr M O 0 (W s)).1 R (zup W s (ztE it wr M O 0 (W s)).2.1) := by
  have key : ∀ (S K : List (Nat × Nat)) (h : zH) (m : zMm) (O : zOt) (w : Slot), w ≠ .second → zcL m s ≤ 1024 → zT h p = 2 → zL h 108 p 0 = nL M → zI h 107 p 0 = nI it → m 356 (111 + 7 * s) 0 = wr.toNat → zGl h m O R (zup W s (K ++ S)) → ∃ h' m', zEv (zPr L xs) 7 55 2 [.val (.ref (111 + 7 * s)), .val (.ref p), .val (.int (nI K.length)), w] [] (zMH h m) = some (.inl none, zMH h' m') ∧ zHf 0 0 h h' ∧ zCf (zVq s) m m' ∧ m' 403 (115 + 7 * s) 0 = m 403 (115 + 7 * s) 0 ∧ zRy s m m' (ztE it wr M O K.length S).2.2 ∧ zGl h' m' (ztE it wr M O K.length S).1 R (zup W s (K ++ (ztE it wr M O K.length S).2.1)) := by
    intro S
    induction S with
    | nil =>
      intro K h m O w hw hr t1 v1 v2 v3 z
      obtain ⟨w1, w2, w3⟩ := z.2.2 s hs
      rw [zup_eq, List.append_nil] at w1 w2
      exact ⟨h, m, p55_2_6 z.1 hs (by omega) (by omega) (by omega), zHf_rf h, zCf_rf _ _, rfl, zRy_rf hr, z⟩
    | cons x S ih =>
      intro K h m O w hw hr t1 v1 v2 v3 z
      obtain ⟨w1, w2, w3⟩ := z.2.2 s hs
      rw [zup_eq] at w1 w2 w3
      have ln : (K ++ x :: S).length = K.length + 1 + S.length := by simp only [List.length_append, List.length_cons]; omega
      rw [ln] at w1 w2 w3
      have gi : (K ++ x :: S).getD K.length (0, 0) = x := by
        rw [List.getD_eq_getElem?_getD, List.getElem?_append_right (Nat.le_refl _), Nat.sub_self]
        rfl
      obtain ⟨c1, c2, c3, ob⟩ := w3 K.length (by omega)
      unfold zWo at c1 ob
      rw [gi] at c1 ob
      have o4 := ob.1
      have of := ob.2.2.2.2.1
      have l1 : ∀ y : Nat × Nat, (K ++ [y]).length = K.length + 1 := fun y => by rw [List.length_append]; rfl
      cases q : M.testBit K.length with
      | false =>
        obtain ⟨h', m', e, f, g, g3, g4, g5⟩ := ih (K ++ [x]) h m O w hw hr t1 v1 v2 v3 (by rw [List.append_assoc]; exact z)
        rw [l1] at e g4 g5
        refine ⟨h', m', (p55_2_1 z.1 hs (by omega) t1 v1 ((zbt_m (by omega)).2 q) hw (by omega) (by omega)).trans e, f, g, g3, ?_, ?_⟩ <;> unfold ztE <;> rw [if_neg (by rw [q]; exact Bool.noConfusion)]
        · exact g4
        · rw [List.append_assoc] at g5
          exact g5
      | true =>
        have nq : lg_cmp (((nL M) >>> ((nI K.length).toInt64 &&& 63)) &&& nL 1) 0 ≠ 0 := fun e => by
          rw [(zbt_m (by omega)).1 e] at q
          cases q
        have one : ∃ h1 m1, zEv (zPr L xs) 7 55 2 [.val (.ref (111 + 7 * s)), .val (.ref p), .val (.int (nI K.length)), w] [] (zMH h m) = zEv (zPr L xs) 7 55 2 [.val (.ref (111 + 7 * s)), .val (.ref p), .val (.int (nI (K.length + 1))), .val (.ref x.1)] [] (zMH h1 m1) ∧ zHf 0 0 h h1 ∧ zCf (zVq s) m m1 ∧ m1 403 (115 + 7 * s) 0 = m 403 (115 + 7 * s) 0 ∧ zRy s m m1 (zEs it wr O K.length x).2.2 ∧ (zT h1 p = 2 ∧ zL h1 108 p 0 = nL M ∧ zI h1 107 p 0 = nI it) ∧ zGl h1 m1 (zEs it wr O K.length x).1 R (zup W s (K ++ (zEs it wr O K.length x).2.1 :: S)) := by
          have wo : zWo (K ++ x :: S) K.length = x.1 := by
            unfold zWo
            rw [gi]
          have : it = 0 ∨ it = 1 ∨ it = 2 := by omega
          unfold zEs
          rcases this with g | g | g
          · obtain ⟨m1, e1, f1, g2, g3, g4, z2⟩ := s60 (L := L) (xs := xs) hs z (p := K.length) (by rw [zup_eq, ln]; omega) hr
            rw [zup_eq, wo, zup_up] at z2
            rw [zup_eq, wo] at g4
            have hset : (K ++ x :: S).set K.length (x.1, (O x.1).2.1) = K ++ (x.1, (O x.1).2.1) :: S := by simp
            rw [hset] at z2
            rw [if_pos g]
            exact ⟨h, m1, p55_2_2 z.1 hs (by omega) t1 v1 nq c1 v2 g e1 z.1 hw (by omega) (by omega) (by omega) hp, zHf_rf h, f1, g3, g4, ⟨t1, v1, v2⟩, z2⟩
          · obtain ⟨m1, e1, y1⟩ := s47 (L := L) (xs := xs) (m := m) (q := 34) (p := K.length + 1) z.1 hs hr (by omega) (zSt_k z.1 (by decide))
            obtain ⟨m2, e2, y2⟩ := s46 (L := L) (xs := xs) (m := m1) (p := (O x.1).1) z.1 hs y1.2.1 of.1
            obtain ⟨m3, e3, y3⟩ := s44 (L := L) (xs := xs) (m := m2) (p := 10) z.1 hs y2.2.1 (by decide)
            have ya := zSy_tr (zSy_tr y1 y2) y3
            rw [if_neg (by omega), if_pos g]
            refine ⟨h, m3, p55_2_3 z.1 hs (by omega) t1 v1 nq c1 v2 (by omega) v2 g e1 o4.2.2 ob.2.1 e2 e3 hw (by omega) (by omega) (by omega) hp (by omega) (by omega), zHf_rf h, zCf_fo ya.1, ya.1 _ _ _ (by intro e; rcases e with e | e <;> omega), ⟨ya.2.1, ?_⟩, ⟨t1, v1, v2⟩, zGl_rp hs ya.1 z⟩
            rw [ya.2.2]
            congr 2
            show _ = zfu (K.length + 1) (O x.1).1
            unfold zfu
            simp only [List.append_assoc]
            rfl
          · obtain ⟨tx, x6, x7⟩ := ob.2.2.2.2.2
            obtain ⟨m1, e1, y1⟩ := s47 (L := L) (xs := xs) (m := m) (q := 34) (p := K.length + 1) z.1 hs hr (by omega) (zSt_k z.1 (by decide))
            obtain ⟨m2, e2, y2⟩ := s45 (L := L) (xs := xs) (m := m1) (p := tx) z.1 hs y1.2.1 x7
            obtain ⟨m3, e3, y3⟩ := s44 (L := L) (xs := xs) (m := m2) (p := 10) z.1 hs y2.2.1 (by decide)
            have ya := zSy_tr (zSy_tr y1 y2) y3
            have m3w : m3 356 (111 + 7 * s) 0 = wr.toNat := (ya.1 _ _ _ (by intro e; rcases e with e | e <;> omega)).trans v3
            have tx' : zRy s m m3 (zfx (K.length + 1) (O x.1).2.2.2) := by
              refine ⟨ya.2.1, ?_⟩
              rw [ya.2.2]
              congr 2
              unfold zfx
              simp only [List.append_assoc]
              rfl
            have z3 := zGl_rp hs ya.1 z
            rw [if_neg (by omega), if_neg (by omega)]
            cases wr with
            | true =>
              have fb : (O x.1).2.1 ||| 1 < 16 := (zsf_lt _ of.2 1 (by decide)).1
              have z4 := zGl_fl z3 ob fb
              exact ⟨_, m3, p55_2_4 z.1 hs (by omega) t1 v1 nq c1 v2 (by omega) v2 (by omega) e1 o4.2.2 x6 e2 e3 (by rw [m3w]; decide) ob.2.2.1 hw (by omega) (by omega) (by omega) hp (by omega) (by omega) (by rw [m3w]; decide) (by omega), zHf_I o4.2.2, zCf_fo ya.1, ya.1 _ _ _ (by intro e; rcases e with e | e <;> omega), tx', ⟨t1, v1, (zsI_g (by decide)).trans v2⟩, z4⟩
            | false =>
              exact ⟨h, m3, p55_2_5 z.1 hs (by omega) t1 v1 nq c1 v2 (by omega) v2 (by omega) e1 o4.2.2 x6 e2 e3 (by rw [m3w]; rfl) hw (by omega) (by omega) (by omega) hp (by omega) (by omega), zHf_rf h, zCf_fo ya.1, ya.1 _ _ _ (by intro e; rcases e with e | e <;> omega), tx', ⟨t1, v1, v2⟩, z3⟩
        obtain ⟨h1, m1, st, f1, f2, g3, g4, ⟨u1, u2, u3'⟩, z2⟩ := one
        obtain ⟨h', m', e, k1, k2, k3, k4, k5⟩ := ih (K ++ [(zEs it wr O K.length x).2.1]) h1 m1 _ (.val (.ref x.1)) (by intro e; cases e) g4.1 u1 u2 u3' ((f2 _ _ _ (by intro e; rcases e with e | e | e | e <;> omega)).trans v3) (by rw [List.append_assoc]; exact z2)
        rw [l1] at e k4 k5
        refine ⟨h', m', st.trans e, zHf_tr f1 k1, zCf_tr f2 k2, k3.trans g3, ?_, ?_⟩ <;> unfold ztE <;> rw [if_pos q]
        · exact zRy_tr g4 k4
        · rw [List.append_assoc] at k5
          exact k5
  rw [en_55]
  obtain ⟨h', m', e, x⟩ := key (W s) [] h m O .unset (by intro e; cases e) hr t1 v1 v2 hwr (by
    rw [List.nil_append, zup_id]
    exact z)
  exact ⟨h', m', (p55_0_1 z.1 hs).trans e, x⟩
end
