/-- the view without what is gone, and what is said of it -/
def ztG (O : zOt) : Nat → List (Nat × Nat) → List (Nat × Nat) × List Nat
  | _, [] => ([], [])
  | n, v :: V => if (O v.1).2.2.1 = true then ((ztG O n V).1, zxp n ++ (ztG O n V).2) else (v :: (ztG O (n + 1) V).1, (ztG O (n + 1) V).2)
theorem zHf_R4 {h : zH} {g a i : Nat} {x : Option Nat} (t : zT h a = 4) : zHf 0 0 h (zsR h g a i x) := ⟨⟨Nat.le_refl _, Nat.le_refl _, Nat.le_refl _⟩, fun _ _ => ⟨rfl, rfl⟩, fun _ b _ _ n1 _ => ⟨rfl, if_neg fun e => n1 (by rw [e.2.1]; exact t), rfl⟩⟩
theorem zHf_new {h : zH} {t n k : Nat} : zHf 1 k h (zNew h t n k) := ⟨⟨Nat.le_succ _, Nat.le_refl _, Nat.le_refl _⟩, fun a ha => ⟨if_neg (Nat.ne_of_lt ha), if_neg (Nat.ne_of_lt ha)⟩, fun g a i ha _ _ => ⟨if_neg (Nat.ne_of_lt ha), if_neg (Nat.ne_of_lt ha), if_neg (Nat.ne_of_lt ha)⟩⟩
section
variable {L : Nat} {xs : Nat → Int32} {O : zOt} {R : Nat → List Nat} {W : Nat → List (Nat × Nat)}
theorem s59 {h : zH} {m : zMm} {s : Nat} (hs : s < 3) (z : zGl h m O R W) (hr : zcL m s ≤ 1024) : ∃ h' m', zCl (zPr L xs) 59 [.ref (111 + 7 * s)] (zMH h m) = some (.inl none, zMH h' m') ∧ zHf 0 0 h h' ∧ zCf (zVq s) m m' ∧ m' 403 (115 + 7 * s) 0 = m 403 (115 + 7 * s) 0 ∧ zRy s m m' (ztG O 1 (W s)).2 ∧ zGl h' m' O R (zup W s (ztG O 1 (W s)).1) := by
  have key : ∀ (S K J : List (Nat × Nat)) (h : zH) (m : zMm), zcL m s ≤ 1024 → zGl h m O R (zup W s (K ++ J ++ S)) → ∃ h' m', zEv (zPr L xs) 7 59 4 [.val (.ref (111 + 7 * s)), .val (.int (nI K.length)), .val (.int (nI (K.length + J.length)))] [] (zMH h m) = some (.inl none, zMH h' m') ∧ zHf 0 0 h h' ∧ zCf (zVq s) m m' ∧ m' 403 (115 + 7 * s) 0 = m 403 (115 + 7 * s) 0 ∧ zRy s m m' (ztG O (K.length + 1) S).2 ∧ zGl h' m' O R (zup W s (K ++ (ztG O (K.length + 1) S).1)) := by
    intro S
    induction S with
    | nil =>
      intro K J h m hr z
      obtain ⟨w1, w2, w3⟩ := z.2.2 s hs
      rw [zup_eq, List.append_nil, List.length_append] at w1 w2
      rw [List.append_nil] at z
      have z2 := zGl_cV z hs (n := K.length) (by rw [zup_eq, List.length_append]; omega)
      rw [zup_eq, zup_up, List.take_left' rfl] at z2
      have f : zCf (fun g a => g = 402 ∧ a = 115 + 7 * s) m (u3 m 402 (115 + 7 * s) 0 K.length) := zCf_u (zCf_rf _ _) ⟨rfl, rfl⟩
      refine ⟨h, _, p59_4_3 z.1 hs (by omega) (by omega) (by omega), zHf_rf h, zCf_w f fun g a e => Or.inl ⟨Or.inl e.1, e.2⟩, u3_g (by decide), ?_, ?_⟩
      · exact zRy_cf (t := []) (m' := u3 m 402 (115 + 7 * s) 0 K.length) f (fun e => by cases e.1) (fun e => by cases e.1) (zRy_rf (by rw [(zcp_cf (s := s) f (fun e => by cases e.1) (fun e => by cases e.1)).1]; exact hr))
      · rw [show ztG O (K.length + 1) [] = ([], []) from rfl, List.append_nil]
        exact z2
    | cons x S ih =>
      intro K J h m hr z
      obtain ⟨w1, w2, w3⟩ := z.2.2 s hs
      rw [zup_eq] at w1 w2 w3
      have ln : (K ++ J ++ x :: S).length = K.length + J.length + 1 + S.length := by simp only [List.length_append, List.length_cons]; omega
      rw [ln] at w1 w2 w3
      have gi : (K ++ J ++ x :: S).getD (K.length + J.length) (0, 0) = x := by
        rw [List.getD_eq_getElem?_getD, List.getElem?_append_right (by rw [List.length_append]; omega), List.length_append, Nat.sub_self]
        rfl
      obtain ⟨c1, c2, c3, ob⟩ := w3 (K.length + J.length) (by omega)
      unfold zWo at c1 ob
      unfold zWt at c2 c3
      rw [gi] at c1 c2 c3 ob
      have o4 := ob.1
      by_cases q : (O x.1).2.2.1 = true
      · obtain ⟨m1, e1, y1⟩ := s48 (L := L) (xs := xs) (q := 37) (p := K.length + 1) z.1 hs hr (by omega) (zSt_k z.1 (by decide))
        have z2 : zGl h m1 O R (zup W s (K ++ (J ++ [x]) ++ S)) := by
          rw [show K ++ (J ++ [x]) ++ S = K ++ J ++ x :: S by simp]
          exact zGl_rp hs y1.1 z
        obtain ⟨h', m', e, f, g, g3, g4, g5⟩ := ih K (J ++ [x]) h m1 y1.2.1 z2
        have l2 : (J ++ [x]).length = J.length + 1 := by rw [List.length_append]; rfl
        rw [l2] at e
        have gn := ob.2.2.2.1
        rw [q] at gn
        refine ⟨h', m', (p59_4_1 (x4 := 1) z.1 hs (by omega) c1 o4.2.2 gn (by decide) e1 (by omega) (by omega) (by omega) (by omega) (by omega)).trans e, f, zCf_tr (zCf_fo y1.1) g, g3.trans (y1.1 _ _ _ (by intro e; rcases e with e | e <;> omega)), ?_, ?_⟩ <;> unfold ztG <;> rw [if_pos q]
        · refine zRy_tr ⟨y1.2.1, ?_⟩ g4
          rw [y1.2.2]
          congr 2
          unfold zxp
          simp only [List.append_assoc]
          rfl
        · exact g5
      · have q' : (O x.1).2.2.1 = false := by cases z : (O x.1).2.2.1 with
          | true => exact absurd z q
          | false => rfl
        have z2 := zGl_sV z hs (i := K.length) (o := x.1) (t := x.2) (by rw [zup_eq, ln]; omega) ob c3
        rw [zup_eq, zup_up, zset_j] at z2
        have f1 : zCf (fun g a => g = 0 ∧ a = 117 + 7 * s) m (u3 m 0 (117 + 7 * s) K.length x.2) := zCf_u (zCf_rf _ _) ⟨rfl, rfl⟩
        have cp := zcp_cf (s := s) f1 (fun e => by cases e.1) (fun e => by have := e.2; omega)
        obtain ⟨h', m', e, f, g, g3, g4, g5⟩ := ih (K ++ [x]) (J ++ [x]).tail _ _ (by rw [cp.1]; exact hr) z2
        have l1 : (K ++ [x]).length = K.length + 1 := by rw [List.length_append]; rfl
        have l2 : (K ++ [x]).length + (J ++ [x]).tail.length = K.length + J.length + 1 := by
          rw [l1, List.length_tail, List.length_append]
          show K.length + 1 + (J.length + 1 - 1) = _
          omega
        rw [l2, l1] at e
        rw [l1] at g4 g5
        have gn := ob.2.2.2.1
        rw [q'] at gn
        have st := p59_4_2 (L := L) (xs := xs) (m := m) (x1 := K.length) (x4 := 0) z.1 hs (by omega) c1 o4.2.2 gn rfl c1 o4.2.2 (by omega) (by omega) (by omega) (by omega) (by omega)
        rw [c2] at st
        refine ⟨h', m', st.trans e, zHf_tr (zHf_R ((zrow_t z.1).2 s hs)) f, zCf_tr (zCf_w f1 fun g a e => (Or.inr (Or.inl e) : zVq s g a)) g, g3.trans (u3_g (by decide)), ?_, ?_⟩ <;> unfold ztG <;> rw [if_neg q]
        · exact zRy_cf f1 (fun e => by cases e.1) (fun e => by have := e.2; omega) g4
        · rw [List.append_assoc] at g5
          exact g5
  rw [en_59]
  obtain ⟨h', m', e, x⟩ := key (W s) [] [] h m hr (by
    rw [show [] ++ [] ++ W s = W s from rfl, zup_id]
    exact z)
  exact ⟨h', m', (p59_0_1 z.1 hs).trans e, x⟩
theorem s23 {h : zH} {m : zMm} {a n f t : Nat} (hx : zFx h) (ta : zT h a = 4) (ha : 154 ≤ a) : zCl (zPr L xs) 23 [.ref a, .int (nI n), .int (nI f), .ref t] (zMH h m) = some (.inl none, zMH (zsR (zsI (zsI h 200 a 0 (nI n)) 202 a 0 (nI f)) 201 a 0 (some t)) m) := by
  rw [en_23]
  exact p23_0_1 hx ta ta ta ha
theorem s21 {h : zH} {m : zMm} {b f t : Nat} {T : List Nat} (hb : b < 4) (z : zGl h m O R W) (hn : m 153 (102 + 2 * b) 0 < 10000) (hf : f < 16) (ht : zSt h t T) (h10 : (R b).length < 10) : ∃ h' m', zCl (zPr L xs) 21 [.ref (102 + 2 * b), .int (nI f), .ref t] (zMH h m) = some (.inl none, zMH h' m') ∧ zHf 1 4 h h' ∧ zCf (fun g a => (g = 153 ∨ g = 154) ∧ a = 102 + 2 * b) m m' ∧ m' 153 (102 + 2 * b) 0 = m 153 (102 + 2 * b) 0 + 1 ∧ (155 ≤ zN h ∧ zN h < zN h') ∧ zGl h' m' (zup O (zN h) (m 153 (102 + 2 * b) 0, f, false, T)) (zup R b (R b ++ [zN h])) W := by
  have hx := z.1
  have h155 := hx.1
  have ne : ∀ {a}, a < zN h → a ≠ zN h := fun q => Nat.ne_of_lt q
  generalize hn' : m 153 (102 + 2 * b) 0 = n at hn
  generalize hh1 : zsR (zsI (zsI (zNew h 4 0 4) 200 (zN h) 0 (nI n)) 202 (zN h) 0 (nI f)) 201 (zN h) 0 (some t) = h1
  have e1 := s23 (L := L) (xs := xs) (m := m) (n := n) (f := f) (t := t) (zFx_new hx (t := 4) (n := 0) (k := 4)) (zNew_T (h := h) (t := 4) (n := 0) (k := 4)) (show 154 ≤ zN h by omega)
  rw [hh1] at e1
  have hx1 : zFx h1 := by
    rw [← hh1]
    exact zFx_sRd (zFx_new hx (t := 4) (n := 0) (k := 4)) (by omega)
  have t4 : zT h1 (zN h) = 4 := by rw [← hh1]; exact zNew_T (h := h) (t := 4) (n := 0) (k := 4)
  have nh : zN h1 = zN h + 1 := by rw [← hh1]; rfl
  have fr : zMf h h1 := by
    rw [← hh1]
    exact ⟨Nat.le_succ _, fun a ha => ⟨if_neg (ne ha), if_neg (ne ha)⟩, fun g a i ha _ => ⟨(zsI_a (ne ha)).trans ((zsI_a (ne ha)).trans (if_neg (ne ha))), (if_neg fun e => ne ha e.2.1).trans (if_neg (ne ha))⟩⟩
  have rr : ∀ g a i, a < zN h → zR h1 g a i = zR h g a i := fun g a i ha => by
    rw [← hh1]
    exact (if_neg fun e => ne ha e.2.1).trans (if_neg (ne ha))
  have hf1 : zHf 1 4 h h1 := by
    rw [← hh1]
    exact zHf_tr (zHf_tr (zHf_tr zHf_new (zHf_I (zNew_T (h := h) (t := 4) (n := 0) (k := 4)))) (zHf_I (zNew_T (h := h) (t := 4) (n := 0) (k := 4)))) (zHf_R4 (zNew_T (h := h) (t := 4) (n := 0) (k := 4)))
  have z1 : zGl h1 m (zup O (zN h) (n, f, false, T)) R W := zGl_h z hx1 (fun b i hb => rr _ _ _ (by omega)) (fun s i hs => rr _ _ _ (by omega)) fun o ho => by
    have o1 := zMf_ob hx fr ho
    unfold zOb at o1 ⊢
    rw [zup_ne (ne ho.1.2.1)]
    exact o1
  have ob : zOb h1 (zup O (zN h) (n, f, false, T)) (zN h) := by
    unfold zOb
    rw [zup_eq]
    refine ⟨⟨h155, by rw [nh]; exact Nat.lt_succ_self _, t4⟩, ?_, ?_, ?_, ⟨hn, hf⟩, t, ?_, zMf_st hx fr ht⟩ <;> rw [← hh1]
    · show zI (zsI (zsI (zNew h 4 0 4) 200 (zN h) 0 (nI n)) 202 (zN h) 0 (nI f)) 200 (zN h) 0 = nI n
      rw [zsI_g (by decide), zsI_e]
    · show zI (zsI (zsI (zNew h 4 0 4) 200 (zN h) 0 (nI n)) 202 (zN h) 0 (nI f)) 202 (zN h) 0 = nI f
      exact zsI_e
    · show zI (zsI (zsI (zNew h 4 0 4) 200 (zN h) 0 (nI n)) 202 (zN h) 0 (nI f)) 203 (zN h) 0 = nI 0
      rw [zsI_g (by decide), zsI_g (by decide)]
      exact if_pos rfl
    · exact if_pos ⟨rfl, rfl, rfl⟩
  have z2 := zGl_aB z1 hb h10 ob
  have b1 := (z.2.1 b hb).1
  have st := p21_0_1 (L := L) (xs := xs) (m := m) (b := b) (p := f) (q := t) hx hb (by omega) (by rw [hn']; exact e1) hx1 t4 (by omega) (by omega)
  rw [en_21]
  rw [b1, hn'] at st
  refine ⟨_, _, st, zHf_tr hf1 (zHf_R ((zrow_t hx1).1 b hb)), zCf_u (zCf_u (zCf_rf _ _) ⟨Or.inr rfl, rfl⟩) ⟨Or.inl rfl, rfl⟩, u3_eq _ _ _ _ _, ⟨h155, by show zN h < zN h1; omega⟩, ?_⟩
  exact zGl_m z2 (fun b' _ => u3_g (by decide)) fun s' _ => ⟨u3_g (by decide), fun i => u3_g (by decide)⟩
end
