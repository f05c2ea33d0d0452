/-! ===== the class's mailboxes and views: methods ===== -/
/-- only messages and rows are others -/
def zHf (c k : Nat) (h h' : zH) : Prop := (zN h ≤ zN h' ∧ zC h' ≤ zC h + c ∧ zS h' ≤ zS h + k) ∧ (∀ a, a < zN h → zT h' a = zT h a ∧ zE h' a = zE h a) ∧ ∀ g a i, a < zN h → zT h a ≠ 4 → zT h a ≠ 31 → zI h' g a i = zI h g a i ∧ zR h' g a i = zR h g a i ∧ zL h' g a i = zL h g a i
theorem zHf_rf (h : zH) : zHf 0 0 h h := ⟨⟨Nat.le_refl _, Nat.le_refl _, Nat.le_refl _⟩, fun _ _ => ⟨rfl, rfl⟩, fun _ _ _ _ _ _ => ⟨rfl, rfl, rfl⟩⟩
theorem zHf_w {c k c' k' : Nat} {h h' : zH} (f : zHf c k h h') (hc : c ≤ c') (hk : k ≤ k') : zHf c' k' h h' := by
  obtain ⟨⟨f1, f2, f3⟩, f4⟩ := f
  exact ⟨⟨f1, by omega, by omega⟩, f4⟩
theorem zHf_tr {c k c' k' : Nat} {h h1 h2 : zH} (f : zHf c k h h1) (g : zHf c' k' h1 h2) : zHf (c + c') (k + k') h h2 := by
  obtain ⟨⟨f1, f2, f3⟩, f4, f5⟩ := f
  obtain ⟨⟨g1, g2, g3⟩, g4, g5⟩ := g
  refine ⟨⟨by omega, by omega, by omega⟩, fun a ha => ?_, fun x a i ha n1 n2 => ?_⟩
  · rw [(g4 a (by omega)).1, (g4 a (by omega)).2]; exact f4 a ha
  · have t := (f4 a ha).1
    have y := g5 x a i (by omega) (by rw [t]; exact n1) (by rw [t]; exact n2)
    rw [y.1, y.2.1, y.2.2]
    exact f5 x a i ha n1 n2
theorem zHf_I {h : zH} {g o : Nat} {x : Int32} (t : zT h o = 4) : zHf 0 0 h (zsI h g o 0 x) := ⟨⟨Nat.le_refl _, Nat.le_refl _, Nat.le_refl _⟩, fun _ _ => ⟨rfl, rfl⟩, fun _ a _ _ n1 _ => ⟨if_neg fun e => n1 (by rw [e.2.1]; exact t), rfl, rfl⟩⟩
theorem zHf_R {h : zH} {g a i : Nat} {x : Option Nat} (t : zT h a = 31) : zHf 0 0 h (zsR h g a i x) := ⟨⟨Nat.le_refl _, Nat.le_refl _, Nat.le_refl _⟩, fun _ _ => ⟨rfl, rfl⟩, fun _ b _ _ _ n2 => ⟨rfl, if_neg fun e => n2 (by rw [e.2.1]; exact t), rfl⟩⟩
/-- only cells for which P holds are others -/
def zCf (P : Nat → Nat → Prop) (m m' : zMm) : Prop := ∀ g a i, ¬ P g a → m' g a i = m g a i
theorem zCf_rf (P : Nat → Nat → Prop) (m : zMm) : zCf P m m := fun _ _ _ _ => rfl
theorem zCf_tr {P : Nat → Nat → Prop} {m m1 m2 : zMm} (a : zCf P m m1) (b : zCf P m1 m2) : zCf P m m2 := fun g x i n => (b g x i n).trans (a g x i n)
theorem zCf_w {P Q : Nat → Nat → Prop} {m m1 : zMm} (a : zCf P m m1) (h : ∀ g x, P g x → Q g x) : zCf Q m m1 := fun g x i n => a g x i fun q => n (h g x q)
theorem zCf_u {P : Nat → Nat → Prop} {m m1 : zMm} (a : zCf P m m1) {g x i v : Nat} (p : P g x) : zCf P m (u3 m1 g x i v) := fun g' x' i' n => (if_neg fun e => n (by rw [e.1, e.2.1]; exact p)).trans (a g' x' i' n)
theorem zup_up {α : Type} (f : Nat → α) (i : Nat) (x y : α) : zup (zup f i x) i y = zup f i y := by
  funext j
  unfold zup
  by_cases e : j = i
  · rw [if_pos e, if_pos e]
  · rw [if_neg e, if_neg e, if_neg e]
theorem zup_id {α : Type} (f : Nat → α) (i : Nat) : zup f i (f i) = f := by
  funext j
  unfold zup
  by_cases e : j = i
  · rw [if_pos e, e]
  · rw [if_neg e]
/-- a message without the flag D; the others are gone -/
def zgo1 (O : zOt) (o : Nat) : Bool := decide ((O o).2.1 &&& 8 = 0)
def zGn (O : zOt) (o : Nat) : zOt := zup O o ((O o).1, (O o).2.1, true, (O o).2.2.2)
def zGx : zOt → List Nat → zOt
  | O, [] => O
  | O, o :: S => zGx (if zgo1 O o = true then O else zGn O o) S
theorem zgo1_gn (O : zOt) (o : Nat) : zgo1 (zGn O o) = zgo1 O := by
  funext p
  unfold zgo1 zGn zup
  by_cases e : p = o
  · rw [if_pos e, e]
  · rw [if_neg e]
theorem zset_j {α : Type} (K J S : List α) (x : α) : (K ++ J ++ x :: S).set K.length x = (K ++ [x]) ++ (J ++ [x]).tail ++ S := by
  cases J with
  | nil => simp
  | cons j J => simp
section
variable {L : Nat} {xs : Nat → Int32} {O : zOt} {R : Nat → List Nat} {W : Nat → List (Nat × Nat)}
theorem s22 {h : zH} {m : zMm} {b : Nat} (hb : b < 4) (z : zGl h m O R W) : ∃ h' m', zCl (zPr L xs) 22 [.ref (102 + 2 * b)] (zMH h m) = some (.inl none, zMH h' m') ∧ zHf 0 0 h h' ∧ zCf (fun g a => g = 154 ∧ a = 102 + 2 * b) m m' ∧ zGl h' m' (zGx O (R b)) (zup R b ((R b).filter (zgo1 O))) W := by
  have key : ∀ (S K J : List Nat) (h : zH) (O : zOt) (w : Slot), w ≠ .second → zGl h m O (zup R b (K ++ J ++ S)) W → ∃ h' k, zEv (zPr L xs) 0 22 4 [.val (.ref (102 + 2 * b)), .val (.int (nI K.length)), .val (.int (nI (K.length + J.length))), w] [] (zMH h m) = some (.inl none, zMH h' (u3 m 154 (102 + 2 * b) 0 k)) ∧ zHf 0 0 h h' ∧ zGl h' (u3 m 154 (102 + 2 * b) 0 k) (zGx O S) (zup R b (K ++ S.filter (zgo1 O))) W := by
    intro S
    induction S with
    | nil =>
      intro K J h O w hw z
      have zb := z.2.1 b hb
      rw [zup_eq, List.append_nil] at zb
      rw [List.append_nil] at z
      have ln : (K ++ J).length = K.length + J.length := List.length_append
      have z2 := zGl_cB z hb (n := K.length) (by rw [zup_eq, ln]; omega)
      rw [zup_eq, zup_up, List.take_left'] at z2
      · refine ⟨h, K.length, p22_4_3 z.1 hb (by have := zb.1; omega) (by have := zb.2.1; omega) (by have := zb.1; have := zb.2.1; omega), zHf_rf h, ?_⟩
        rw [List.filter_nil, List.append_nil]
        exact z2
      · rfl
    | cons x S ih =>
      intro K J h O w hw z
      have zb := z.2.1 b hb
      rw [zup_eq] at zb
      have ln : (K ++ J ++ x :: S).length = K.length + J.length + 1 + S.length := by simp only [List.length_append, List.length_cons]; omega
      obtain ⟨b1, b2, b3⟩ := zb
      rw [ln] at b1 b2 b3
      have gi : (K ++ J ++ x :: S).getD (K.length + J.length) 0 = x := by
        rw [List.getD_eq_getElem?_getD, List.getElem?_append_right (by rw [List.length_append]; omega), List.length_append, Nat.sub_self]
        rfl
      obtain ⟨r, ob⟩ := b3 (K.length + J.length) (by omega)
      rw [gi] at r ob
      have ob4 := ob.1
      by_cases q : zgo1 O x = true
      · have q' := of_decide_eq_true q
        have z2 := zGl_sB z hb (i := K.length) (o := x) (by rw [zup_eq, ln]; omega) ob
        rw [zup_eq, zup_up, zset_j] at z2
        obtain ⟨h', k, e, f, g⟩ := ih (K ++ [x]) (J ++ [x]).tail _ O (.val (.ref x)) (by intro e; cases e) z2
        have l1 : (K ++ [x]).length = K.length + 1 := by rw [List.length_append]; rfl
        have l2 : (K ++ [x]).length + (J ++ [x]).tail.length = K.length + J.length + 1 := by
          rw [l1, List.length_tail, List.length_append]
          show K.length + 1 + (J.length + 1 - 1) = _
          omega
        rw [l2, l1] at e
        refine ⟨h', k, (p22_4_2 z.1 hb (by omega) r ob4.2.2 ob.2.2.1 q' (by omega) (by omega) (by omega) (by omega) (by omega)).trans e, zHf_tr (zHf_R ((zrow_t z.1).1 b hb)) f, ?_⟩
        unfold zGx
        rw [if_pos q, List.filter_cons, if_pos q]
        rw [List.append_assoc] at g
        exact g
      · have q' : (O x).2.1 &&& 8 ≠ 0 := fun e => q (decide_eq_true e)
        have z2 := zGl_go z ob
        have z3 : zGl (zsI h 203 x 0 (nI 1)) m (zGn O x) (zup R b (K ++ (J ++ [x]) ++ S)) W := by
          rw [show K ++ (J ++ [x]) ++ S = K ++ J ++ x :: S by simp]
          exact z2
        obtain ⟨h', k, e, f, g⟩ := ih K (J ++ [x]) _ (zGn O x) (.val (.ref x)) (by intro e; cases e) z3
        have l2 : (J ++ [x]).length = J.length + 1 := by rw [List.length_append]; rfl
        rw [l2] at e
        have l8 : (O x).2.1 &&& 8 < 2147483648 := Nat.lt_of_le_of_lt Nat.and_le_right (by decide)
        refine ⟨h', k, (p22_4_1 z.1 hb (by omega) r ob4.2.2 ob.2.2.1 q' (by omega) (by omega) (by omega) (by omega) (by omega) l8).trans e, zHf_tr (zHf_I ob4.2.2) f, ?_⟩
        unfold zGx
        rw [if_neg q, List.filter_cons, if_neg q]
        rw [zgo1_gn] at g
        exact g
  rw [en_22]
  obtain ⟨h', k, e, f, g⟩ := key (R b) [] [] h O .unset (by intro e; cases e) (by
    rw [show [] ++ [] ++ R b = R b from rfl, zup_id]
    exact z)
  exact ⟨h', _, (p22_0_1 z.1 hb).trans e, f, zCf_u (zCf_rf _ _) ⟨rfl, rfl⟩, g⟩
end
