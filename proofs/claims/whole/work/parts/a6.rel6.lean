/-! ===== the class performs a command ===== -/
/-- what performing makes, and what it leaves: all but messages, rows and sessions -/
def zPh (c k : Nat) (h h' : zH) : Prop := (zN h ≤ zN h' ∧ zC h' ≤ zC h + c ∧ zS h' ≤ zS h + k) ∧ (∀ a, a < zN h → zT h' a = zT h a ∧ zE h' a = zE h a) ∧ ∀ g a i, a < zN h → zT h a ≠ 4 → zT h a ≠ 31 → zT h a ≠ 7 → zI h' g a i = zI h g a i ∧ zR h' g a i = zR h g a i ∧ zL h' g a i = zL h g a i
theorem zPh_rf (h : zH) : zPh 0 0 h h := ⟨⟨Nat.le_refl _, Nat.le_refl _, Nat.le_refl _⟩, fun _ _ => ⟨rfl, rfl⟩, fun _ _ _ _ _ _ _ => ⟨rfl, rfl, rfl⟩⟩
theorem zPh_w {c k c' k' : Nat} {h h' : zH} (f : zPh c k h h') (hc : c ≤ c') (hk : k ≤ k') : zPh c' k' h h' := ⟨⟨f.1.1, by have := f.1.2.1; omega, by have := f.1.2.2; omega⟩, f.2⟩
theorem zPh_of {c k : Nat} {h h' : zH} (f : zHf c k h h') : zPh c k h h' := ⟨f.1, f.2.1, fun g a i ha n1 n2 _ => f.2.2 g a i ha n1 n2⟩
theorem zPh_tr {c k c' k' : Nat} {h h1 h2 : zH} (f : zPh c k h h1) (g : zPh c' k' h1 h2) : zPh (c + c') (k + k') h h2 := by
  obtain ⟨⟨a1, a2, a3⟩, a4, a5⟩ := f
  obtain ⟨⟨b1, b2, b3⟩, b4, b5⟩ := g
  refine ⟨⟨Nat.le_trans a1 b1, by omega, by omega⟩, fun a ha => ?_, fun g a i ha n1 n2 n3 => ?_⟩
  · exact ⟨(b4 a (Nat.lt_of_lt_of_le ha a1)).1.trans (a4 a ha).1, (b4 a (Nat.lt_of_lt_of_le ha a1)).2.trans (a4 a ha).2⟩
  · have t := (a4 a ha).1
    have p := a5 g a i ha n1 n2 n3
    have q := b5 g a i (Nat.lt_of_lt_of_le ha a1) (by rw [t]; exact n1) (by rw [t]; exact n2) (by rw [t]; exact n3)
    exact ⟨q.1.trans p.1, q.2.1.trans p.2.1, q.2.2.trans p.2.2⟩
theorem zPh_355 {h : zH} {s : Nat} {x : Option Nat} (hx : zFx h) (hs : s < 3) : zPh 0 0 h (zsR h 355 (111 + 7 * s) 0 x) := ⟨⟨Nat.le_refl _, Nat.le_refl _, Nat.le_refl _⟩, fun _ _ => ⟨rfl, rfl⟩, fun g a i _ _ _ n3 => ⟨rfl, if_neg fun e => n3 (by rw [e.2.1]; exact (xs_ses hx hs).1), rfl⟩⟩
theorem zCg_of {P : Nat → Nat → Prop} {m m' : zMm} (cf : zCf P m m') (hP : ∀ g a, P g a → a < 132 ∧ (a ≠ 112 ∧ a ≠ 119 ∧ a ≠ 126) ∧ g ≠ 354) : zCg m m' := fun g a i q => cf g a i fun p => by
  obtain ⟨p1, p2, p3⟩ := hP g a p
  rcases q with q | ⟨s, hs, q | ⟨q, -⟩⟩
  · omega
  · omega
  · exact p3 q
theorem zVq_c {s : Nat} (hs : s < 3) {g a : Nat} (p : zVq s g a) : a < 132 ∧ (a ≠ 112 ∧ a ≠ 119 ∧ a ≠ 126) ∧ g ≠ 354 ∨ (a = 113 + 7 * s ∨ a = 114 + 7 * s) := by
  rcases p with ⟨p, e⟩ | ⟨p, e⟩ | e
  · exact Or.inl (by omega)
  · exact Or.inl (by omega)
  · exact Or.inr e
theorem zCg_vq {s : Nat} {m m' : zMm} (hs : s < 3) (cf : zCf (zVq s) m m') : zCg m m' := fun g a i q => cf g a i fun p => by
  unfold zVq zRq at p
  rcases q with q | ⟨s', hs', q | ⟨q, q'⟩⟩ <;> omega
/-! the abstract commands -/
theorem zPf_1 {A : zAS} {s : Nat} {c : Nat → Nat} {u : Bool} {a : zArg} : zPf A s c 1 u a = A := by
  unfold zPf
  cases zaQ A s <;> rfl
theorem zPf_2 {A : zAS} {s b : Nat} {w : Bool} {c : Nat → Nat} {u : Bool} {a : zArg} (hq : zaQ A s = some (b, w)) : zPf A s c 2 u a = zPleave (if w then zPclean A b else A) s (zaC A s) := by
  unfold zPf
  rw [hq]
  rfl
theorem zPf_3 {A : zAS} {s b : Nat} {w : Bool} {c : Nat → Nat} {u : Bool} {a : zArg} (hq : zaQ A s = some (b, w)) : zPf A s c 3 u a = zPclean A b := by
  unfold zPf
  rw [hq]
  rfl
theorem zPf_4 {A : zAS} {s : Nat} {c : Nat → Nat} {u : Bool} {a : zArg} : zPf A s c 4 u a = zPleave A s false := rfl
theorem zPf_5 {A : zAS} {s : Nat} {c : Nat → Nat} {u : Bool} {a : zArg} : zPf A s c 5 u a = zPcreate A a.1 := rfl
theorem zPf_6 {A : zAS} {s : Nat} {c : Nat → Nat} {u : Bool} {a : zArg} : zPf A s c 6 u a = zPdelete A a.1 := rfl
theorem zPf_7 {A : zAS} {s : Nat} {c : Nat → Nat} {u : Bool} {a : zArg} : zPf A s c 7 u a = zPselect A s a.1 true := rfl
theorem zPf_8 {A : zAS} {s : Nat} {c : Nat → Nat} {u : Bool} {a : zArg} : zPf A s c 8 u a = zPselect A s a.1 false := rfl
theorem zPf_9 {A : zAS} {s : Nat} {c : Nat → Nat} {u : Bool} {a : zArg} : zPf A s c 9 u a = zPappend A a.1 a.2.1 ((List.range a.2.2.2.2.1).map fun q => c (a.2.2.2.1 + q)) := rfl
theorem zPf_10 {A : zAS} {s b : Nat} {w : Bool} {c : Nat → Nat} {u : Bool} {a : zArg} (hq : zaQ A s = some (b, w)) : zPf A s c 10 u a = zPover A s b (zov a.2.2.2.2.2.2.2 (zsF1 10 a.2.2.1 a.2.1 a.2.2.2.2.2.1 w) (zaV A s).length 1 (zaM A b, zaV A s, zaT A s)) := by
  unfold zPf
  rw [hq]
  rfl
theorem zPf_11 {A : zAS} {s b : Nat} {w : Bool} {c : Nat → Nat} {u : Bool} {a : zArg} (hq : zaQ A s = some (b, w)) : zPf A s c 11 u a = zPover A s b (zov a.2.2.2.2.2.2.2 (zsF1 11 a.2.2.1 a.2.1 a.2.2.2.2.2.1 w) (zaV A s).length 1 (zaM A b, zaV A s, zaT A s)) := by
  unfold zPf
  rw [hq]
  rfl
theorem zPf_12 {A : zAS} {s b : Nat} {w : Bool} {c : Nat → Nat} {u : Bool} {a : zArg} (hq : zaQ A s = some (b, w)) : zPf A s c 12 u a = zPcopy A a.1 (zov a.2.2.2.2.2.2.2 (zcp1 (zaM A b) (zaV A s)) (zaV A s).length 1 ((A.1 a.1).2.2.1, zaM A a.1)) := by
  unfold zPf
  rw [hq]
  rfl
theorem zPf_13 {A : zAS} {s b : Nat} {w : Bool} {c : Nat → Nat} {u : Bool} {a : zArg} (hq : zaQ A s = some (b, w)) : zPf A s c 13 u a = zPfind A s (zov a.2.2.2.2.2.2.2 (zfn1 (zaM A b) (zaV A s) u) (zaV A s).length 1 [42, 32, 83, 69, 65, 82, 67, 72]) := by
  unfold zPf
  rw [hq]
  rfl
/-! which objects STORE and FETCH change -/
theorem ztU_f {R : List Nat} {M sg mk : Nat} {P : zHd} : ∀ (V : List (Nat × Nat)) (i : Nat) (O : zOt), zLk O R V → zMb O M P i V → (∀ p, ((ztU sg mk M O i V).1 p).1 = (O p).1 ∧ ((ztU sg mk M O i V).1 p).2.2 = (O p).2.2) ∧ (∀ p, p ∉ R → (ztU sg mk M O i V).1 p = O p) ∧ (ztU sg mk M O i V).2.1.map (fun v => v.1) = V.map fun v => v.1
  | [], _, _, _, _ => ⟨fun _ => ⟨rfl, rfl⟩, fun _ _ => rfl, rfl⟩
  | v :: V, i, O, hl, hm => by
    obtain ⟨m1, m2⟩ := hm
    unfold ztU
    by_cases q : M.testBit i = true
    · rw [if_pos q]
      have c := zFl_n O v.1 (zsf sg (O v.1).2.1 mk)
      obtain ⟨f1, f2, f3⟩ := ztU_f (M := M) (sg := sg) (mk := mk) (P := P) V (i + 1) (zFl O v.1 (zsf sg (O v.1).2.1 mk)) (zLk_cg (zLk_tl hl) c) (zMb_cg (fun p => (c p).2) _ _ m2)
      have vr : v.1 ∈ R := hl.1 v List.mem_cons_self (by
        rw [q] at m1
        cases t : (O v.1).2.2.1 with
        | false => rfl
        | true => rw [t] at m1; cases m1)
      refine ⟨fun p => ⟨(f1 p).1.trans (c p).1, (f1 p).2.trans (c p).2⟩, fun p hp => (f2 p hp).trans (zup_ne fun e => hp (by rw [e]; exact vr)), ?_⟩
      show v.1 :: _ = v.1 :: _
      exact congrArg _ f3
    · rw [if_neg q]
      obtain ⟨f1, f2, f3⟩ := ztU_f (M := M) (sg := sg) (mk := mk) (P := P) V (i + 1) O (zLk_tl hl) m2
      refine ⟨f1, f2, ?_⟩
      show v.1 :: _ = v.1 :: _
      exact congrArg _ f3
theorem ztE_f {R : List Nat} {M it : Nat} {wr : Bool} {P : zHd} (hit : it ≤ 2) : ∀ (V : List (Nat × Nat)) (i : Nat) (O : zOt), zLk O R V → zMb O M P i V → (∀ p, ((ztE it wr M O i V).1 p).1 = (O p).1 ∧ ((ztE it wr M O i V).1 p).2.2 = (O p).2.2) ∧ (∀ p, p ∉ R → (ztE it wr M O i V).1 p = O p) ∧ (ztE it wr M O i V).2.1.map (fun v => v.1) = V.map fun v => v.1
  | [], _, _, _, _ => ⟨fun _ => ⟨rfl, rfl⟩, fun _ _ => rfl, rfl⟩
  | v :: V, i, O, hl, hm => by
    obtain ⟨m1, m2⟩ := hm
    unfold ztE
    by_cases q : M.testBit i = true
    · rw [if_pos q, zEs_e hit wr O i v]
      dsimp only
      have c := zFl_n O v.1 (if it = 2 ∧ wr = true then (O v.1).2.1 ||| 1 else (O v.1).2.1)
      obtain ⟨f1, f2, f3⟩ := ztE_f (M := M) (it := it) (wr := wr) (P := P) hit V (i + 1) (zFl O v.1 (if it = 2 ∧ wr = true then (O v.1).2.1 ||| 1 else (O v.1).2.1)) (zLk_cg (zLk_tl hl) c) (zMb_cg (fun p => (c p).2) _ _ m2)
      have vr : v.1 ∈ R := hl.1 v List.mem_cons_self (by
        rw [q] at m1
        cases t : (O v.1).2.2.1 with
        | false => rfl
        | true => rw [t] at m1; cases m1)
      refine ⟨fun p => ⟨(f1 p).1.trans (c p).1, (f1 p).2.trans (c p).2⟩, fun p hp => (f2 p hp).trans (zup_ne fun e => hp (by rw [e]; exact vr)), ?_⟩
      show v.1 :: _ = v.1 :: _
      exact congrArg _ f3
    · rw [if_neg q]
      obtain ⟨f1, f2, f3⟩ := ztE_f (M := M) (it := it) (wr := wr) (P := P) hit V (i + 1) O (zLk_tl hl) m2
      refine ⟨f1, f2, ?_⟩
      show v.1 :: _ = v.1 :: _
      exact congrArg _ f3
theorem ztQ_num {O : zOt} {M : Nat} : ∀ (V : List (Nat × Nat)) (n i : Nat), ∀ x ∈ ztQ O M n i V, x.2.2.1 = false ∧ n ≤ x.1 ∧ x.1 < n + (ztQ O M n i V).length
  | [], _, _, _, hx => absurd hx List.not_mem_nil
  | v :: V, n, i, x, hx => by
    unfold ztQ at hx ⊢
    by_cases q : M.testBit i = true
    · rw [if_pos q] at hx ⊢
      rw [List.length_cons]
      rcases List.mem_cons.mp hx with rfl | hx
      · exact ⟨rfl, Nat.le_refl _, by show n < _; omega⟩
      · have := ztQ_num V (n + 1) (i + 1) x hx
        exact ⟨this.1, by omega, by omega⟩
    · rw [if_neg q] at hx ⊢
      exact ztQ_num V n (i + 1) x hx
section
variable {L : Nat} {xs : Nat → Int32} {h : zH} {m : zMm} {O : zOt} {R : Nat → List Nat} {W : Nat → List (Nat × Nat)} {A : zAS} {K : Nat}
def zPo (L : Nat) (xs : Nat → Int32) (h : zH) (m : zMm) (s q : Nat) (A' : zAS) : Prop := ∃ h' m' O' R' W', zCl (zPr L xs) 85 [.ref 100, .ref (111 + 7 * s), .ref q] (zMH h m) = some (.inl none, zMH h' m') ∧ zKJ h' m' O' R' W' A' ∧ zPh 10 40 h h' ∧ zCg m m'
theorem s85_2 (z : zKJ h m O R W A) {s q b : Nat} {w : Bool} {a : zArg} (hs : s < 3) (hp : 154 ≤ q) (t1 : zT h q = 2) (r1 : zR h 101 q 0 = some 1) (v3 : zI h 103 q 0 = nI a.1) (a4 : a.1 < 4) (hq : zaQ A s = some (b, w)) : zPo L xs h m s q (zPleave (if w then zPclean A b else A) s (zaC A s)) := by
  have hx := z.1.1
  have k := z.2.2.1 s hs
  have k2 := k.2.1
  have k3 := k.2.2.1
  have k7 := k.2.2.2.2.2
  rw [hq] at k2 k3 k7
  have hb : b < 4 := k7.1
  have e1 : ∃ h1 m1 O1 R1, zCl (zPr L xs) 53 [.ref (111 + 7 * s)] (zMH h m) = some (.inl none, zMH h1 m1) ∧ zKJ h1 m1 O1 R1 W (if w then zPclean A b else A) ∧ zPh 0 0 h h1 ∧ zCg m m1 := by
    cases w with
    | false =>
      refine ⟨h, m, O, R, ?_, z, zPh_rf h, zCg_rf m⟩
      rw [en_53]
      exact p53_0_2 hx hs hb k2 k3
    | true =>
      have k3 : m 356 (111 + 7 * s) 0 = 1 := k3
      obtain ⟨h1, m1, e, f, cf, g⟩ := s53 (L := L) (xs := xs) hs hb z.1 k2 (by rw [k3]; decide)
      rw [if_pos (by rw [k3]; decide), if_pos (by rw [k3]; decide)] at g
      exact ⟨h1, m1, _, _, e, zKJ_clean z hb g cf (fun s' hs' => zHf_355 hx hs' f), zPh_of f, zCg_of cf (fun g a p => by omega)⟩
  obtain ⟨h1, m1, O1, R1, e1, z1, f1, c1⟩ := e1
  obtain ⟨m2, e2, n2, cf2, g2⟩ := s52 (L := L) (xs := xs) hs z1.1
  have eC : zaC (if w then zPclean A b else A) s = zaC A s := by cases w <;> rfl
  have k1 := (z1.2.2.1 s hs).1
  rw [eC] at k1
  refine ⟨_, m2, O1, R1, _, by rw [en_85]; exact p85v1_0_1 hx hs t1 v3 r1 e1 z1.1.1 e2 g2.1, zKJ_leave z1 hs g2 n2 ((cf2 _ _ _ (by omega)).trans k1) (zCf_w cf2 fun g a p => by omega), zPh_w (zPh_tr f1 (zPh_355 z1.1.1 hs)) (by decide) (by decide), zCg_tr c1 (zCg_of cf2 fun g a p => by omega)⟩
theorem s85 (z : zKJ h m O R W A) (I : zAI K A) (hK : K ≤ 64) {s q k : Nat} {c : Nat → Nat} {u : Bool} {a : zArg} (hs : s < 3) (hp : 154 ≤ q) (t1 : zT h q = 2) (hk : 1 ≤ k ∧ k ≤ 13) (r1 : zR h 101 q 0 = some (k - 1)) (v2 : zI h 102 q 0 = nI u.toNat) (v3 : zI h 103 q 0 = nI a.1) (v4 : zI h 104 q 0 = nI a.2.1) (v5 : a.2.2.2.2.1 ≠ 0 → ∃ t, zR h 105 q 0 = some t ∧ zSt h t ((List.range a.2.2.2.2.1).map fun i => c (a.2.2.2.1 + i))) (v6 : zI h 106 q 0 = nI a.2.2.1) (v7 : zI h 107 q 0 = nI a.2.2.2.2.2.1) (v8 : zL h 108 q 0 = nL (zMk (fun n => zPg O (W s) n && a.2.2.2.2.2.2.2 n) (W s).length)) (ha : zArgOk k a) (hf : zrf A s k a = false) (hl : (zaT (zPf A s c k u a) s).length ≤ 1024) : zPo L xs h m s q (zPf A s c k u a) := by
  have hx := z.1.1
  have kt := z.2.2.1 s hs
  have k2 := kt.2.1
  have k3 := kt.2.2.1
  have k4 := kt.2.2.2.1
  have k7 := kt.2.2.2.2.2
  have w40 := (z.1.2.2 s hs).2.1
  obtain ⟨⟨a4, a16, a2, a6, ai⟩, a9, -⟩ := ha
  have kb := z.2.1 a.1 a4
  have gb := z.1.2.1 a.1 a4
  obtain ⟨n1, n2, n3, n4, n5⟩ := zrow_p z I a4
  have ll : (zaM A a.1).length = (R a.1).length := by rw [kb.2.2.2.1]; unfold zMs; exact List.length_map ..
  have kk : k = 1 ∨ k = 2 ∨ k = 3 ∨ k = 4 ∨ k = 5 ∨ k = 6 ∨ k = 7 ∨ k = 8 ∨ k = 9 ∨ k = 10 ∨ k = 11 ∨ k = 12 ∨ k = 13 := by omega
  have d0 : ∀ {p : Prop} [Decidable p], decide p = false → ¬ p := fun h => of_decide_eq_false h
  rcases kk with rfl | rfl | rfl | rfl | rfl | rfl | rfl | rfl | rfl | rfl | rfl | rfl | rfl
  · rw [zPf_1]
    exact ⟨h, m, O, R, W, by rw [en_85]; exact p85v0_0_1 hx hs t1 v3 r1, z, zPh_w (zPh_rf h) (by decide) (by decide), zCg_rf m⟩
  · rw [zrf_2] at hf
    cases hq : zaQ A s with
    | none => rw [hq] at hf; cases hf
    | some x =>
      obtain ⟨b, w⟩ := x
      rw [zPf_2 hq]
      exact s85_2 z hs hp t1 r1 v3 a4 hq
  · rw [zrf_3] at hf
    cases hq : zaQ A s with
    | none => rw [hq] at hf; cases hf
    | some x =>
      obtain ⟨b, w⟩ := x
      rw [hq] at hf k2 k3 k7
      have hb : b < 4 := k7.1
      cases w with
      | false => cases hf
      | true =>
        have k3 : m 356 (111 + 7 * s) 0 = 1 := k3
        rw [zPf_3 hq]
        obtain ⟨h1, m1, e, f, cf, g⟩ := s53 (L := L) (xs := xs) hs hb z.1 k2 (by rw [k3]; decide)
        rw [if_pos (by rw [k3]; decide), if_pos (by rw [k3]; decide)] at g
        exact ⟨h1, m1, _, _, W, by rw [en_85]; exact p85v2_0_1 hx hs t1 v3 r1 e g.1, zKJ_clean z hb g cf (fun s' hs' => zHf_355 hx hs' f), zPh_w (zPh_of f) (by decide) (by decide), zCg_of cf (fun g a p => by omega)⟩
  · rw [zPf_4]
    obtain ⟨m2, e2, c2, cf2, g2⟩ := s52 (L := L) (xs := xs) hs z.1
    have cf3 : zCf (fun g a => ((g = 356 ∨ g = 353) ∧ a = 111 + 7 * s) ∨ ((g = 402 ∨ g = 403) ∧ a = 115 + 7 * s)) m (u3 m2 353 (111 + 7 * s) 0 0) := zCf_u (zCf_w cf2 fun g a p => by omega) (by omega)
    have g3 : zGl (zsR h 355 (111 + 7 * s) 0 none) (u3 m2 353 (111 + 7 * s) 0 0) O R (zup W s []) := zGl_m g2 (fun b hb => u3_g (by decide)) (fun s' hs' => ⟨u3_g (by decide), fun i => u3_g (by decide)⟩)
    refine ⟨_, _, O, R, _, by rw [en_85]; exact p85v3_0_1 hx hs t1 v3 r1 e2 g2.1, zKJ_leave (cn := false) z hs g3 ((u3_g (by decide)).trans c2) (u3_eq _ _ _ _ _) cf3, zPh_w (zPh_355 hx hs) (by decide) (by decide), zCg_of cf3 fun g a p => by omega⟩
  · rw [zrf_5] at hf
    have h0 : (A.1 a.1).1 = 0 := by have := d0 hf; omega
    have g1 : zGl h (u3 m 452 100 0 (m 452 100 0 + 1)) O R W := zGl_m z.1 (fun b hb => u3_g (by decide)) (fun s' hs' => ⟨u3_g (by decide), fun i => u3_g (by decide)⟩)
    obtain ⟨m1, e1, c1, cf1, g2⟩ := s20 (L := L) (xs := xs) (v := m 452 100 0 + 1) a4 g1
    have fr : ∀ g x i, x ≠ 100 → x ≠ 102 + 2 * a.1 → m1 g x i = m g x i := fun g x i q1 q2 => (cf1 _ _ _ (by omega)).trans (u3_a q1)
    rw [zPf_5]
    refine ⟨h, m1, O, _, W, by rw [en_85]; exact p85v4_0_1 hx hs t1 v3 r1 e1, zKJ_create z I a4 h0 g2 ⟨c1.1, by rw [c1.2.1, z.2.2.2.1], c1.2.2⟩ (by rw [cf1 _ _ _ (by omega), u3_eq, z.2.2.2.1]) fr, zPh_w (zPh_rf h) (by decide) (by decide), fun g x i p => fr g x i ?_ ?_⟩
    · rcases p with p | ⟨s', hs', p | ⟨-, p⟩⟩ <;> omega
    · rcases p with p | ⟨s', hs', p | ⟨-, p⟩⟩ <;> omega
  · rw [zPf_6]
    refine ⟨h, _, O, R, W, by rw [en_85]; exact p85v5_0_1 hx hs t1 v3 r1, zKJ_delete z a4, zPh_w (zPh_rf h) (by decide) (by decide), fun g x i p => u3_a ?_⟩
    rcases p with p | ⟨s', hs', p | ⟨-, p⟩⟩ <;> omega
  · rw [zrf_7] at hf
    have h1 := d0 hf
    rw [zPf_7] at hl ⊢
    obtain ⟨h2, m2, e, f, cf, c1, c2, -, ry, g⟩ := s51 (L := L) (xs := xs) (w := true) hs a4 z.1 k4.1 (by rw [kb.2.1]; omega) (by rw [kb.2.2.1.1]; omega)
    refine ⟨h2, m2, O, R, _, by rw [en_85]; exact p85v6_0_1 hx hs t1 v3 r1 e g.1, zKJ_select z I hs a4 h1 g f cf c1 c2 ry hl, zPh_w (zPh_tr (zPh_355 hx hs) (zPh_of f)) (by decide) (by decide), fun g x i p => cf g x i ?_⟩
    unfold zVq zRq
    rcases p with p | ⟨s', hs', p | ⟨p', p⟩⟩ <;> omega
  · rw [zrf_8] at hf
    have h1 := d0 hf
    rw [zPf_8] at hl ⊢
    obtain ⟨h2, m2, e, f, cf, c1, c2, -, ry, g⟩ := s51 (L := L) (xs := xs) (w := false) hs a4 z.1 k4.1 (by rw [kb.2.1]; omega) (by rw [kb.2.2.1.1]; omega)
    refine ⟨h2, m2, O, R, _, by rw [en_85]; exact p85v7_0_1 hx hs t1 v3 r1 e g.1, zKJ_select z I hs a4 h1 g f cf c1 c2 ry hl, zPh_w (zPh_tr (zPh_355 hx hs) (zPh_of f)) (by decide) (by decide), fun g x i p => cf g x i ?_⟩
    unfold zVq zRq
    rcases p with p | ⟨s', hs', p | ⟨p', p⟩⟩ <;> omega
  · rw [zrf_9] at hf
    obtain ⟨f1, f2⟩ := Bool.or_eq_false_iff.mp hf
    have h1 := d0 f1
    have h2 := d0 f2
    obtain ⟨t, w1, w2⟩ := v5 (a9 rfl)
    rw [zPf_9]
    obtain ⟨h3, m3, e, f, cf, c3, nn, g⟩ := s21 (L := L) (xs := xs) a4 z.1 (by rw [kb.2.2.1.1]; omega) a16 w2 (by omega)
    have lt := fun b' hb' => zbr_lt (z.1.2.1 b' hb')
    have Z := zKJ_add (N := [zN h]) (n := (A.1 a.1).2.2.1 + 1) z I a4 (fun o ho => zup_ne (Nat.ne_of_lt ho)) (fun o ho => by rw [List.mem_singleton] at ho; omega) rfl (fun x hx => by
      rw [List.map_singleton, List.mem_singleton] at hx
      rw [hx, zup_eq, kb.2.2.1.1]
      exact ⟨rfl, Nat.le_refl _, Nat.lt_succ_self _⟩) ⟨h1, Nat.le_succ _⟩ g cf (by rw [c3, kb.2.2.1.1]) (fun s' hs' => zHf_355 hx hs' f)
    rw [List.map_singleton, List.map_singleton, zup_eq, kb.2.2.1.1] at Z
    exact ⟨h3, m3, _, _, W, by rw [en_85]; exact p85v8_0_1 hx hs t1 v3 r1 v4 w1 e g.1, Z, zPh_w (zPh_of f) (by decide) (by decide), zCg_of cf fun g x p => by omega⟩
  · rw [zrf_10] at hf
    cases hq : zaQ A s with
    | none => rw [hq] at hf; cases hf
    | some x =>
      obtain ⟨b, w⟩ := x
      rw [hq] at k7
      have hb : b < 4 := k7.1
      have lk : zLk O (R b) (W s) := k7.2.1
      have ob := z.2.1 b hb
      have U := ztU_all (sg := a.2.2.1) (mk := a.2.1) (it := a.2.2.2.2.2.1) (wr := w) (P := a.2.2.2.2.2.2.2) (zaT A s) lk
      rw [zPf_10 hq, ob.2.2.2.1, kt.2.2.2.2.1, U] at hl ⊢
      obtain ⟨f1, f2, f3⟩ := ztU_f (sg := a.2.2.1) (mk := a.2.1) (M := zMk (fun n => zPg O (W s) n && a.2.2.2.2.2.2.2 n) (W s).length) (P := a.2.2.2.2.2.2.2) (W s) 0 O lk (zMb_mk (W s) [] rfl)
      obtain ⟨h2, m2, e, f, cf, c3, ry, g⟩ := s54 (L := L) (xs := xs) hs z.1 k4.1 hp t1 v8 v6 v4 a2 a16
      have hl' : (zaT A s ++ (ztU a.2.2.1 a.2.1 (zMk (fun n => zPg O (W s) n && a.2.2.2.2.2.2.2 n) (W s).length) O 0 (W s)).2.2).length ≤ 1024 := by
        have e : ∀ σ : zSg, zaT (zPover A s b σ) s = σ.2.2 := fun σ => congrArg (fun S : zSs => S.2.2.2.1) (zup_eq _ _ _ : (zPover A s b σ).2.1 s = _)
        rw [e] at hl
        exact hl
      exact ⟨h2, m2, _, R, _, by rw [en_85]; exact p85v9_0_1 hx hs t1 v3 r1 e g.1, zKJ_over z hs hq f1 f2 f3 g f cf c3 ry hl', zPh_w (zPh_of f) (by decide) (by decide), zCg_vq hs cf⟩
  · rw [zrf_11] at hf
    cases hq : zaQ A s with
    | none => rw [hq] at hf; cases hf
    | some x =>
      obtain ⟨b, w⟩ := x
      rw [hq] at k7 k3
      have hb : b < 4 := k7.1
      have lk : zLk O (R b) (W s) := k7.2.1
      have ob := z.2.1 b hb
      have U := ztE_all (k := 11) (sg := a.2.2.1) (mk := a.2.1) (it := a.2.2.2.2.2.1) (wr := w) (P := a.2.2.2.2.2.2.2) (by decide) ai (zaT A s) lk
      rw [zPf_11 hq, ob.2.2.2.1, kt.2.2.2.2.1, U] at hl ⊢
      obtain ⟨f1, f2, f3⟩ := ztE_f (it := a.2.2.2.2.2.1) (wr := w) (M := zMk (fun n => zPg O (W s) n && a.2.2.2.2.2.2.2 n) (W s).length) (P := a.2.2.2.2.2.2.2) ai (W s) 0 O lk (zMb_mk (W s) [] rfl)
      obtain ⟨h2, m2, e, f, cf, c3, ry, g⟩ := s55 (L := L) (xs := xs) hs z.1 k4.1 hp t1 v8 v7 k3 ai
      have hl' : (zaT A s ++ (ztE a.2.2.2.2.2.1 w (zMk (fun n => zPg O (W s) n && a.2.2.2.2.2.2.2 n) (W s).length) O 0 (W s)).2.2).length ≤ 1024 := by
        have e : ∀ σ : zSg, zaT (zPover A s b σ) s = σ.2.2 := fun σ => congrArg (fun S : zSs => S.2.2.2.1) (zup_eq _ _ _ : (zPover A s b σ).2.1 s = _)
        rw [e] at hl
        exact hl
      exact ⟨h2, m2, _, R, _, by rw [en_85]; exact p85v10_0_1 hx hs t1 v3 r1 e g.1, zKJ_over z hs hq f1 f2 f3 g f cf c3 ry hl', zPh_w (zPh_of f) (by decide) (by decide), zCg_vq hs cf⟩
  · rw [zrf_12] at hf
    cases hq : zaQ A s with
    | none => rw [hq] at hf; cases hf
    | some x =>
      obtain ⟨b, w⟩ := x
      rw [hq] at k7
      have hb : b < 4 := k7.1
      have lk : zLk O (R b) (W s) := k7.2.1
      have ob := z.2.1 b hb
      obtain ⟨g1, g2⟩ := Bool.or_eq_false_iff.mp hf
      obtain ⟨g3, g4⟩ := Bool.or_eq_false_iff.mp g1
      have h1 := d0 g4
      have h2 := d0 g2
      have cn := (zbc_cn (P := a.2.2.2.2.2.2.2) kt.2.2.2.2.1 hq ob.2.2.2.1 lk w40).2
      have ql := ztQ_len (O := O) (M := zMk (fun n => zPg O (W s) n && a.2.2.2.2.2.2.2 n) (W s).length) (W s) (A.1 a.1).2.2.1 0
      rw [Nat.zero_add, cn] at ql
      have ql : zaN A s a.2.2.2.2.2.2.2 = (ztQ O (zMk (fun n => zPg O (W s) n && a.2.2.2.2.2.2.2 n) (W s).length) (A.1 a.1).2.2.1 0 (W s)).length := by
        rw [ql]
        exact Nat.zero_add _
      rw [zPf_12 hq, ob.2.2.2.1, kt.2.2.2.2.1, kb.2.2.2.1, ztQ_all (P := a.2.2.2.2.2.2.2) (A.1 a.1).2.2.1 (zMs O (R a.1)) lk]
      have e153 : m 153 (102 + 2 * a.1) 0 = (A.1 a.1).2.2.1 := kb.2.2.1.1
      obtain ⟨h3, m3, N, O', e, f, cf, c3, c4, c5, c6, g⟩ := s56 (L := L) (xs := xs) (M := zMk (fun n => zPg O (W s) n && a.2.2.2.2.2.2.2 n) (W s).length) hs a4 z.1 (by rw [e153]; omega) (by rw [e153]; omega)
      rw [e153] at c3 c5
      have nl : N.length = (ztQ O (zMk (fun n => zPg O (W s) n && a.2.2.2.2.2.2.2 n) (W s).length) (A.1 a.1).2.2.1 0 (W s)).length := by rw [← c5, List.length_map]
      have Z := zKJ_add (n := (A.1 a.1).2.2.1 + N.length) z I a4 c4 c6.1 c5 (fun x hx => by
        have := ztQ_num (W s) _ 0 x hx
        rw [nl]
        exact this) ⟨h1, by omega⟩ g cf c3 (fun s' hs' => zHf_355 hx hs' f)
      rw [kb.2.2.2.1, nl] at Z
      exact ⟨h3, m3, O', _, W, by rw [en_85]; exact p85v11_0_1 hx hs t1 v3 r1 v8 e g.1, Z, zPh_w (zPh_of f) (by omega) (by omega), zCg_of cf fun g x p => by omega⟩
  · rw [zrf_13] at hf
    cases hq : zaQ A s with
    | none => rw [hq] at hf; cases hf
    | some x =>
      obtain ⟨b, w⟩ := x
      rw [hq] at k7
      have hb : b < 4 := k7.1
      have lk : zLk O (R b) (W s) := k7.2.1
      have ob := z.2.1 b hb
      have U := ztS_all (P := a.2.2.2.2.2.2.2) (u := u) [42, 32, 83, 69, 65, 82, 67, 72] lk
      rw [zPf_13 hq, ob.2.2.2.1, kt.2.2.2.2.1, U] at hl ⊢
      obtain ⟨m2, e, f, ry⟩ := s57 (L := L) (xs := xs) hs z.1 k4.1 hp t1 v8 v2
      have hl' : (zaT A s ++ ([42, 32, 83, 69, 65, 82, 67, 72] ++ ztS O (zMk (fun n => zPg O (W s) n && a.2.2.2.2.2.2.2 n) (W s).length) u 0 (W s) ++ [10])).length ≤ 1024 := by
        unfold zPfind zaVT at hl
        rw [zaT_S, if_pos rfl] at hl
        exact hl
      have Z := zKJ_say z hs f ry hl'
      exact ⟨h, m2, O, R, W, by rw [en_85]; exact p85v12_0_1 hx hs t1 v3 r1 e hx, Z, zPh_w (zPh_rf h) (by decide) (by decide), fun g x i p => f g x i (by
        unfold zRq
        rcases p with p | ⟨s', hs', p | ⟨-, p⟩⟩ <;> omega)⟩
end
