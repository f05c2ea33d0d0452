theorem zbt_m {M i : Nat} (hi : i < 64) : (lg_cmp (((nL M) >>> ((nI i).toInt64 &&& 63)) &&& nL 1) 0 = 0) ↔ M.testBit i = false := by
  rw [zl_shr hi, zl_cmp0]
  cases M.testBit i
  · exact ⟨fun _ => rfl, fun _ => rfl⟩
  · refine ⟨fun e => ?_, fun e => by cases e⟩
    have : nL (if true = true then 1 else 0) ≠ 0 := by decide
    exact absurd e this
/-- SEARCH's answer -/
def ztS (O : zOt) (M : Nat) (u : Bool) : Nat → List (Nat × Nat) → List Nat
  | _, [] => []
  | i, v :: V => (if M.testBit i = true then [32] ++ zds (if u = true then (O v.1).1 else i + 1) else []) ++ ztS O M u (i + 1) V
/-- STORE -/
def ztU (sg mk M : Nat) : zOt → Nat → List (Nat × Nat) → zOt × List (Nat × Nat) × List Nat
  | O, _, [] => (O, [], [])
  | O, i, v :: V => if M.testBit i = true then
      ((ztU sg mk M (zup O v.1 ((O v.1).1, zsf sg (O v.1).2.1 mk, (O v.1).2.2)) (i + 1) V).1, (v.1, zsf sg (O v.1).2.1 mk) :: (ztU sg mk M (zup O v.1 ((O v.1).1, zsf sg (O v.1).2.1 mk, (O v.1).2.2)) (i + 1) V).2.1, zft (i + 1) (zsf sg (O v.1).2.1 mk) ++ (ztU sg mk M (zup O v.1 ((O v.1).1, zsf sg (O v.1).2.1 mk, (O v.1).2.2)) (i + 1) V).2.2)
    else ((ztU sg mk M O (i + 1) V).1, v :: (ztU sg mk M O (i + 1) V).2.1, (ztU sg mk M O (i + 1) V).2.2)
section
variable {L : Nat} {xs : Nat → Int32} {O : zOt} {R : Nat → List Nat} {W : Nat → List (Nat × Nat)}
theorem s57 {h : zH} {m : zMm} {s p M : Nat} {u : Bool} (hs : s < 3) (z : zGl h m O R W) (hr : zcL m s ≤ 1024) (hp : 154 ≤ p) (t1 : zT h p = 2) (v1 : zL h 108 p 0 = nL M) (v2 : zI h 102 p 0 = nI u.toNat) : ∃ m', zCl (zPr L xs) 57 [.ref (111 + 7 * s), .ref p] (zMH h m) = some (.inl none, zMH h m') ∧ zfo (zRq s) m m' ∧ zRy s m m' ([42, 32, 83, 69, 65, 82, 67, 72] ++ ztS O M u 0 (W s) ++ [10]) := by
  have key : ∀ (S K : List (Nat × Nat)) (m : zMm), W s = K ++ S → zcL m s ≤ 1024 → zGl h m O R W → ∃ m', zEv (zPr L xs) 5 57 11 [.val (.ref (111 + 7 * s)), .val (.ref p), .val (.int (nI K.length))] [] (zMH h m) = some (.inl none, zMH h m') ∧ zSy s m m' (ztS O M u K.length S ++ [10]) := by
    intro S
    induction S with
    | nil =>
      intro K m hW hr z
      obtain ⟨w1, w2, w3⟩ := z.2.2 s hs
      rw [hW, List.append_nil] at w1 w2
      obtain ⟨m1, e1, y1⟩ := s44 (L := L) (xs := xs) (m := m) (p := 10) z.1 hs hr (by decide)
      exact ⟨m1, p57_11_4 z.1 hs (by omega) e1 (by omega) (by omega), y1⟩
    | cons x S ih =>
      intro K m hW hr z
      obtain ⟨w1, w2, w3⟩ := z.2.2 s hs
      have ln : (W s).length = K.length + 1 + S.length := by rw [hW]; simp only [List.length_append, List.length_cons]; omega
      have gi : (W s).getD K.length (0, 0) = x := by
        rw [hW, List.getD_eq_getElem?_getD, List.getElem?_append_right (Nat.le_refl _), Nat.sub_self]
        rfl
      obtain ⟨c1, c2, c3, ob⟩ := w3 K.length (by omega)
      unfold zWo at c1 ob
      rw [gi] at c1 ob
      have o4 := ob.1
      have on := ob.2.2.2.2.1.1
      have hW' : W s = (K ++ [x]) ++ S := by rw [hW, List.append_assoc]; rfl
      have l1 : (K ++ [x]).length = K.length + 1 := by rw [List.length_append]; rfl
      cases q : M.testBit K.length with
      | false =>
        obtain ⟨m', e, y⟩ := ih (K ++ [x]) m hW' hr z
        rw [l1] at e y
        refine ⟨m', (p57_11_3 z.1 hs (by omega) t1 v1 ((zbt_m (by omega)).2 q) (by omega) (by omega)).trans e, ?_⟩
        unfold ztS
        rw [q, if_neg Bool.noConfusion, List.nil_append]
        exact y
      | true =>
        have nq : lg_cmp (((nL M) >>> ((nI K.length).toInt64 &&& 63)) &&& nL 1) 0 ≠ 0 := fun e => by
          rw [(zbt_m (by omega)).1 e] at q
          cases q
        obtain ⟨m1, e1, y1⟩ := s44 (L := L) (xs := xs) (m := m) (p := 32) z.1 hs hr (by decide)
        obtain ⟨m2, e2, y2⟩ := s46 (L := L) (xs := xs) (m := m1) (p := if u = true then (O x.1).1 else K.length + 1) z.1 hs y1.2.1 (by split <;> omega)
        have ya := zSy_tr y1 y2
        obtain ⟨m', e, y⟩ := ih (K ++ [x]) m2 hW' y2.2.1 (zGl_rp hs ya.1 z)
        rw [l1] at e y
        refine ⟨m', Eq.trans ?_ e, ?_⟩
        · cases hu : u with
          | true =>
            rw [hu] at v2 e2
            exact p57_11_1 (x3 := 1) z.1 hs (by omega) t1 v1 nq e1 v2 (by decide) c1 o4.2.2 ob.2.1 e2 (by omega) (by omega) (by omega) (by omega) (by omega) (by omega)
          | false =>
            rw [hu] at v2 e2
            exact p57_11_2 (x3 := 0) z.1 hs (by omega) t1 v1 nq e1 v2 rfl e2 (by omega) (by omega) (by omega)
        · unfold ztS
          rw [q, if_pos rfl, List.append_assoc ([32] ++ _)]
          exact zSy_tr ya y
  obtain ⟨m1, e1, y1⟩ := s45 (L := L) (xs := xs) (m := m) (p := 36) z.1 hs hr (zSt_k z.1 (by decide))
  obtain ⟨m2, e2, y2⟩ := key (W s) [] m1 rfl y1.2.1 (zGl_rp hs y1.1 z)
  have ya := zSy_tr y1 y2
  rw [en_57]
  refine ⟨m2, (p57_0_1 z.1 hs e1).trans e2, ya.1, ya.2.1, ?_⟩
  rw [ya.2.2, List.append_assoc]
  rfl
theorem s54 {h : zH} {m : zMm} {s p M sg mk : Nat} (hs : s < 3) (z : zGl h m O R W) (hr : zcL m s ≤ 1024) (hp : 154 ≤ p) (t1 : zT h p = 2) (v1 : zL h 108 p 0 = nL M) (v2 : zI h 106 p 0 = nI sg) (v3 : zI h 104 p 0 = nI mk) (hsg : sg ≤ 2) (hmk : mk < 16) : ∃ h' m', zCl (zPr L xs) 54 [.ref (111 + 7 * s), .ref p] (zMH h m) = some (.inl none, zMH h' m') ∧ zHf 0 0 h h' ∧ zCf (zVq s) m m' ∧ m' 403 (115 + 7 * s) 0 = m 403 (115 + 7 * s) 0 ∧ zRy s m m' (ztU sg mk M O 0 (W s)).2.2 ∧ zGl h' m' (ztU sg mk M O 0 (W s)).1 R (zup W s (ztU sg mk M O 0 (W s)).2.1) := by
  have key : ∀ (S K : List (Nat × Nat)) (h : zH) (m : zMm) (O : zOt) (w : Slot), w ≠ .second → zcL m s ≤ 1024 → zT h p = 2 → zL h 108 p 0 = nL M → zI h 106 p 0 = nI sg → zI h 104 p 0 = nI mk → zGl h m O R (zup W s (K ++ S)) → ∃ h' m', zEv (zPr L xs) 7 54 2 [.val (.ref (111 + 7 * s)), .val (.ref p), .val (.int (nI K.length)), w] [] (zMH h m) = some (.inl none, zMH h' m') ∧ zHf 0 0 h h' ∧ zCf (zVq s) m m' ∧ m' 403 (115 + 7 * s) 0 = m 403 (115 + 7 * s) 0 ∧ zRy s m m' (ztU sg mk M O K.length S).2.2 ∧ zGl h' m' (ztU sg mk M O K.length S).1 R (zup W s (K ++ (ztU sg mk M O K.length S).2.1)) := by
    intro S
    induction S with
    | nil =>
      intro K h m O w hw hr t1 v1 v2 v3 z
      obtain ⟨w1, w2, w3⟩ := z.2.2 s hs
      rw [zup_eq, List.append_nil] at w1 w2
      exact ⟨h, m, p54_2_5 z.1 hs (by omega) (by omega) (by omega), zHf_rf h, zCf_rf _ _, rfl, zRy_rf hr, z⟩
    | cons x S ih =>
      intro K h m O w hw hr t1 v1 v2 v3 z
      obtain ⟨w1, w2, w3⟩ := z.2.2 s hs
      rw [zup_eq] at w1 w2 w3
      have ln : (K ++ x :: S).length = K.length + 1 + S.length := by simp only [List.length_append, List.length_cons]; omega
      rw [ln] at w1 w2 w3
      have gi : (K ++ x :: S).getD K.length (0, 0) = x := by
        rw [List.getD_eq_getElem?_getD, List.getElem?_append_right (Nat.le_refl _), Nat.sub_self]
        rfl
      obtain ⟨c1, c2, c3, ob⟩ := w3 K.length (by omega)
      unfold zWo at c1 ob
      rw [gi] at c1 ob
      have o4 := ob.1
      have of := ob.2.2.2.2.1.2
      have l1 : ∀ y : Nat × Nat, (K ++ [y]).length = K.length + 1 := fun y => by rw [List.length_append]; rfl
      cases q : M.testBit K.length with
      | false =>
        obtain ⟨h', m', e, f, g, g3, g4, g5⟩ := ih (K ++ [x]) h m O w hw hr t1 v1 v2 v3 (by rw [List.append_assoc]; exact z)
        rw [l1] at e g4 g5
        refine ⟨h', m', (p54_2_4 z.1 hs (by omega) t1 v1 ((zbt_m (by omega)).2 q) hw (by omega) (by omega)).trans e, f, g, g3, ?_, ?_⟩ <;> unfold ztU <;> rw [if_neg (by rw [q]; exact Bool.noConfusion)]
        · exact g4
        · rw [List.append_assoc] at g5
          exact g5
      | true =>
        have nq : lg_cmp (((nL M) >>> ((nI K.length).toInt64 &&& 63)) &&& nL 1) 0 ≠ 0 := fun e => by
          rw [(zbt_m (by omega)).1 e] at q
          cases q
        have fb : zsf sg (O x.1).2.1 mk < 16 := by
          have : ∀ sg, sg ≤ 2 → ∀ f, f < 16 → ∀ k, k < 16 → zsf sg f k < 16 := by decide
          exact this sg hsg _ of mk hmk
        have z1 := zGl_fl z ob fb
        generalize hf : zsf sg (O x.1).2.1 mk = f at fb z1
        obtain ⟨m1, e1, f1, g2, g3, g4, z2⟩ := s60 (L := L) (xs := xs) hs z1 (p := K.length) (by rw [zup_eq, ln]; omega) hr
        have wo : zWo (K ++ x :: S) K.length = x.1 := by
          unfold zWo
          rw [gi]
        rw [zup_eq, wo, zup_up, zup_eq] at z2
        rw [zup_eq, wo, zup_eq] at g4
        have hset : (K ++ x :: S).set K.length (x.1, f) = (K ++ [(x.1, f)]) ++ S := by simp
        rw [hset] at z2
        obtain ⟨h', m', e, k1, k2, k3, k4, k5⟩ := ih (K ++ [(x.1, f)]) (zsI h 202 x.1 0 (nI f)) m1 _ (.val (.ref x.1)) (by intro e; cases e) g4.1 t1 v1 ((zsI_g (by decide)).trans v2) ((zsI_g (by decide)).trans v3) z2
        rw [l1] at e k4 k5
        have st : zEv (zPr L xs) 7 54 2 [.val (.ref (111 + 7 * s)), .val (.ref p), .val (.int (nI K.length)), w] [] (zMH h m) = zEv (zPr L xs) 7 54 2 [.val (.ref (111 + 7 * s)), .val (.ref p), .val (.int (nI (K.length + 1))), .val (.ref x.1)] [] (zMH (zsI h 202 x.1 0 (nI f)) m1) := by
          have : sg = 0 ∨ sg = 1 ∨ sg = 2 := by omega
          rcases this with g | g | g <;> subst g
          · have hf' : f = mk := by rw [← hf]; rfl
            rw [hf'] at e1 ⊢
            exact p54_2_3 (x4 := 0) (x5 := 0) z.1 hs (by omega) t1 v1 nq c1 v2 (by decide) v2 (by decide) v3 o4.2.2 e1 z1.1 hw (by omega) (by omega) (by omega) hp (by omega) (by omega) (by omega)
          · have hf' : f = (O x.1).2.1 ||| mk := by rw [← hf]; rfl
            rw [hf'] at e1 ⊢
            exact p54_2_1 (x4 := 1) z.1 hs (by omega) t1 v1 nq c1 v2 rfl o4.2.2 ob.2.2.1 v3 e1 z1.1 hw (by omega) (by omega) (by omega) hp (by omega)
          · have an : ∀ f, f < 16 → ∀ k, k < 16 → (nI f &&& (nI k ^^^ (-1))) = nI (zsf 2 f k) := by decide
            have an' := an _ of mk hmk
            rw [hf] at an'
            rw [← an'] at e1 ⊢
            exact p54_2_2 (x4 := 2) (x5 := 2) z.1 hs (by omega) t1 v1 nq c1 v2 (by decide) v2 rfl o4.2.2 ob.2.2.1 v3 e1 z1.1 hw (by omega) (by omega) (by omega) hp (by omega) (by omega)
        refine ⟨h', m', st.trans e, zHf_tr (zHf_I o4.2.2) k1, zCf_tr f1 k2, k3.trans g3, ?_, ?_⟩ <;> unfold ztU <;> rw [if_pos q, hf]
        · exact zRy_tr g4 k4
        · rw [List.append_assoc] at k5
          exact k5
  rw [en_54]
  obtain ⟨h', m', e, x⟩ := key (W s) [] h m O .unset (by intro e; cases e) hr t1 v1 v2 v3 (by
    rw [List.nil_append, zup_id]
    exact z)
  exact ⟨h', m', (p54_0_1 z.1 hs).trans e, x⟩
end
