/-! ===== the class between two calls ===== -/
/-- a mailbox's cells -/
def zKB (m : zMm) (O : zOt) (R : Nat → List Nat) (A : zAS) (b : Nat) : Prop := (m 151 (102 + 2 * b) 0 = (A.1 b).1 ∧ (A.1 b).1 < 2) ∧ m 152 (102 + 2 * b) 0 = (A.1 b).2.1 ∧ (m 153 (102 + 2 * b) 0 = (A.1 b).2.2.1 ∧ ((A.1 b).1 ≠ 0 → 1 ≤ (A.1 b).2.2.1)) ∧ zaM A b = zMs O (R b) ∧ ∀ r ∈ R b, (O r).2.2.1 = false ∧ 1 ≤ (O r).1
/-- a view and its mailbox -/
def zKQ (n : Nat) (O : zOt) (R : Nat → List Nat) (A : zAS) (V : List (Nat × Nat)) : Option (Nat × Bool) → Prop
  | none => V = []
  | some q => q.1 < 4 ∧ zLk O (R q.1) V ∧ n < (A.1 q.1).2.2.1 ∧ ∀ r ∈ R q.1, (n < (O r).1 ↔ zhas (zVs O V) (O r).1 = false)
/-- a session's cells -/
def zKS (h : zH) (m : zMm) (O : zOt) (R : Nat → List Nat) (W : Nat → List (Nat × Nat)) (A : zAS) (s : Nat) : Prop := m 353 (111 + 7 * s) 0 = (zaC A s).toNat ∧ (zR h 355 (111 + 7 * s) 0 = (zaQ A s).map fun q => 102 + 2 * q.1) ∧ m 356 (111 + 7 * s) 0 = (zqW (zaQ A s)).toNat ∧ (zcL m s ≤ 1024 ∧ zcp m s = zaT A s) ∧ (m 354 (111 + 7 * s) 0 = (zaL A s).length ∧ ∀ i, i < (zaL A s).length → m 0 (112 + 7 * s) i = zacl A s i) ∧ zaV A s = zVs O (W s) ∧ zKQ (m 403 (115 + 7 * s) 0) O R A (W s) (zaQ A s)
def zDj (R : Nat → List Nat) : Prop := ∀ b, b < 4 → ∀ b', b' < 4 → b ≠ b' → ∀ r ∈ R b, r ∉ R b'
def zKI (h : zH) (m : zMm) (O : zOt) (R : Nat → List Nat) (W : Nat → List (Nat × Nat)) (A : zAS) : Prop := zGl h m O R W ∧ (∀ b, b < 4 → zKB m O R A b) ∧ (∀ s, s < 3 → zKS h m O R W A s) ∧ m 452 100 0 = A.2.2 ∧ zDj R
/-- what is known of the abstract state -/
def zCI (K : Nat) (A : zAS) : Prop := zAI K A ∧ ∀ s, s < 3 → (zaT A s).length ≤ 1024 ∧ (zaL A s).length ≤ 48 ∧ (∀ x ∈ zaL A s, x < 127) ∧ (zaC A s = false → zaQ A s = none) ∧ ∀ x ∈ zaT A s, x < 127
theorem zCI_of {B0 : zMm} {K : Nat} {A : zAS} {m : zMm} (h : zRI B0 K A m) : zCI K A := ⟨h.2.2.1, h.2.2.2.2⟩
/-- what a call makes, and what it leaves -/
def zKfr (c k : Nat) (h h' : zH) (m m' : zMm) : Prop := (zN h ≤ zN h' ∧ zC h' ≤ zC h + c ∧ zS h' ≤ zS h + k) ∧ (∀ i, zL h' 0 154 i = zL h 0 154 i) ∧ ∀ g a i, 132 ≤ a → m' g a i = m g a i
theorem zKfr_rf {h : zH} {m : zMm} : zKfr 0 0 h h m m := ⟨⟨Nat.le_refl _, Nat.le_refl _, Nat.le_refl _⟩, fun _ => rfl, fun _ _ _ _ => rfl⟩
theorem zKfr_w {c k c' k' : Nat} {h h' : zH} {m m' : zMm} (f : zKfr c k h h' m m') (hc : c ≤ c') (hk : k ≤ k') : zKfr c' k' h h' m m' := ⟨⟨f.1.1, by have := f.1.2.1; omega, by have := f.1.2.2; omega⟩, f.2⟩
theorem zKfr_tr {c k c' k' : Nat} {h h1 h2 : zH} {m m1 m2 : zMm} (f : zKfr c k h h1 m m1) (g : zKfr c' k' h1 h2 m1 m2) : zKfr (c + c') (k + k') h h2 m m2 := by
  obtain ⟨⟨a1, a2, a3⟩, a4, a5⟩ := f
  obtain ⟨⟨b1, b2, b3⟩, b4, b5⟩ := g
  exact ⟨⟨Nat.le_trans a1 b1, by omega, by omega⟩, fun i => (b4 i).trans (a4 i), fun g a i ha => (b5 g a i ha).trans (a5 g a i ha)⟩
theorem zKfr_x {h : zH} {m : zMm} : zKfr 1 6 h (zExc h) m m := ⟨⟨Nat.le_refl _, Nat.le_refl _, Nat.le_refl _⟩, fun _ => rfl, fun _ _ _ _ => rfl⟩
theorem zKfr_m {h : zH} {m m' : zMm} (f : ∀ g a i, 132 ≤ a → m' g a i = m g a i) : zKfr 0 0 h h m m' := ⟨⟨Nat.le_refl _, Nat.le_refl _, Nat.le_refl _⟩, fun _ => rfl, f⟩
theorem zKfr_h {c k : Nat} {h h' : zH} {m m' : zMm} (hx : zFx h) (f : zHf c k h h') (g : ∀ g a i, 132 ≤ a → m' g a i = m g a i) : zKfr c k h h' m m' := ⟨f.1, fun i => (f.2.2 0 154 i (by have := hx.1; omega) (by rw [xT_154 hx]; decide) (by rw [xT_154 hx]; decide)).2.2, g⟩
theorem zKI_x {h : zH} {m : zMm} {O : zOt} {R : Nat → List Nat} {W : Nat → List (Nat × Nat)} {A : zAS} (z : zKI h m O R W A) : zKI (zExc h) m O R W A := z
/-- what a call answers -/
def zEx (k : Nat) : String := if k = 1 then "java/lang/IndexOutOfBoundsException" else if k = 2 then "java/lang/IllegalStateException" else "java/lang/IllegalArgumentException"
def zan (k : Nat) (v : Option Value) : Option Value ⊕ String := if k = 0 then .inl v else .inr (zEx k)
def zan2 (k : Nat) (v : Option Value) : Option Value ⊕ String := if k = 0 then .inl v else .inr "java/util/NoSuchElementException"
/-- frames -/
theorem zKB_fr {m m' : zMm} {O : zOt} {R : Nat → List Nat} {A A' : zAS} {b : Nat} (k : zKB m O R A b) (hm : ∀ g i, m' g (102 + 2 * b) i = m g (102 + 2 * b) i) (hA : A'.1 b = A.1 b) : zKB m' O R A' b := by
  unfold zKB zaM at k ⊢
  rw [hA, hm, hm, hm]
  exact k
theorem zcp_fr {m m' : zMm} {s : Nat} (hm : ∀ g a i, 111 + 7 * s ≤ a → a < 118 + 7 * s → m' g a i = m g a i) : zcL m' s = zcL m s ∧ zcp m' s = zcp m s := by
  have e : zcL m' s = zcL m s := hm _ _ _ (by omega) (by omega)
  refine ⟨e, ?_⟩
  unfold zcp
  rw [e]
  exact List.map_congr_left fun i _ => hm _ _ _ (by omega) (by omega)
theorem zKS_fr {h h' : zH} {m m' : zMm} {O : zOt} {R : Nat → List Nat} {W : Nat → List (Nat × Nat)} {A A' : zAS} {s : Nat} (k : zKS h m O R W A s) (hm : ∀ g a i, 111 + 7 * s ≤ a → a < 118 + 7 * s → m' g a i = m g a i) (hq : zR h' 355 (111 + 7 * s) 0 = zR h 355 (111 + 7 * s) 0) (hA : A'.2.1 s = A.2.1 s) (hB : ∀ b, b < 4 → A'.1 b = A.1 b) : zKS h' m' O R W A' s := by
  have e := zcp_fr hm
  obtain ⟨k1, k2, k3, k4, k5, k6, k7⟩ := k
  have eC : zaC A' s = zaC A s := congrArg (fun S : zSs => S.1) hA
  have eQ : zaQ A' s = zaQ A s := congrArg (fun S : zSs => S.2.1) hA
  have eV : zaV A' s = zaV A s := congrArg (fun S : zSs => S.2.2.1) hA
  have eT : zaT A' s = zaT A s := congrArg (fun S : zSs => S.2.2.2.1) hA
  have eL : zaL A' s = zaL A s := congrArg (fun S : zSs => S.2.2.2.2) hA
  unfold zKS zacl
  rw [eC, eQ, eV, eT, eL, e.1, e.2, hq, hm 353 _ _ (by omega) (by omega), hm 356 _ _ (by omega) (by omega), hm 354 _ _ (by omega) (by omega), hm 403 _ _ (by omega) (by omega)]
  refine ⟨k1, k2, k3, k4, ⟨k5.1, fun i hi => (hm _ _ _ (by omega) (by omega)).trans (k5.2 i hi)⟩, k6, ?_⟩
  cases hq : zaQ A s with
  | none =>
    rw [hq] at k7
    exact k7
  | some q =>
    rw [hq] at k7
    obtain ⟨a1, a2, a3, a4⟩ := k7
    exact ⟨a1, a2, by rw [hB _ a1]; exact a3, a4⟩
theorem zi_nlt {a b : Int32} (h : a ≤ b) : ¬ b < a := Int32.not_lt.mpr h
section
variable {L : Nat} {xs : Nat → Int32} {h : zH} {m : zMm} {O : zOt} {R : Nat → List Nat} {W : Nat → List (Nat × Nat)} {A : zAS} {K : Nat}
theorem s79n (hx : zFx h) {p : Int32} (e : zsn p = none) : zCl (zPr L xs) 79 [.ref 100, .int p] (zMH h m) = some (.inr "java/lang/IndexOutOfBoundsException", zMH (zExc h) m) := by
  rw [en_79]
  rcases zsn_c p with ⟨-, q | ⟨q1, q2⟩⟩ | ⟨s, -, -, e'⟩
  · exact r79_0_2 hx q
  · exact r79_0_1 hx q1 (zi_nlt q2)
  · rw [e] at e'
    cases e'
theorem s79 (hx : zFx h) {s : Nat} (hs : s < 3) : zCl (zPr L xs) 79 [.ref 100, .int (nI s)] (zMH h m) = some (.inl (some (.ref (111 + 7 * s))), zMH h m) := by
  rw [en_79]
  exact p79_0_2 hx hs
theorem s80n (hx : zFx h) {p : Int32} (e : zsn p = none) : zCl (zPr L xs) 80 [.ref 100, .int p] (zMH h m) = some (.inr "java/lang/IndexOutOfBoundsException", zMH (zExc h) m) := by
  rw [en_80]
  exact Eq.trans (zEv_go lk_80_0 rfl) (Eq.trans (zEv_go lk_80_1 rfl) (k_cvx (a := 100) lk_80_2 rfl rfl (Or.inl (xT_100 hx)) rfl rfl (rk_79 _) (by decide) (s79n hx e) (zhand_n rfl)))
theorem s80 (hx : zFx h) {s : Nat} (hs : s < 3) (hc : m 353 (111 + 7 * s) 0 = 1) : zCl (zPr L xs) 80 [.ref 100, .int (nI s)] (zMH h m) = some (.inl (some (.ref (111 + 7 * s))), zMH h m) := by
  rw [en_80]
  exact p80_0_2 hx hs (s79 hx hs) (by omega)
theorem s80x (hx : zFx h) {s : Nat} (hs : s < 3) (hc : m 353 (111 + 7 * s) 0 = 0) : zCl (zPr L xs) 80 [.ref 100, .int (nI s)] (zMH h m) = some (.inr "java/lang/IllegalStateException", zMH (zExc h) m) := by
  rw [en_80]
  exact p80_0_1 hx hs (s79 hx hs) hc
/-- connect -/
theorem s73 (z : zKI h m O R W A) (C : zCI K A) (p : Int32) : ∃ h' m', zCl (zPr L xs) 73 [.ref 100, .int p] (zMH h m) = some (zan (zcC A p).1 none, zMH h' m') ∧ zKI h' m' O R W (zcC A p).2 ∧ zKfr 1 6 h h' m m' := by
  have hx := z.1.1
  rw [en_73]
  unfold zcC
  rcases zsn_c p with ⟨e, -⟩ | ⟨s, hs, ep, e⟩
  · rw [e]
    exact ⟨_, _, Eq.trans (zEv_go lk_73_0 rfl) (Eq.trans (zEv_go lk_73_1 rfl) (k_cvx (a := 100) lk_73_2 rfl rfl (Or.inl (xT_100 hx)) rfl rfl (rk_79 _) (by decide) (s79n hx e) (zhand_n rfl))), zKI_x z, zKfr_x⟩
  rw [e, ep]
  dsimp only
  have k := z.2.2.1 s hs
  cases c : zaC A s with
  | true =>
    have k1 := k.1
    rw [c] at k1
    rw [if_pos (show true = true from rfl)]
    exact ⟨_, _, p73_0_1 hx hs (s79 hx hs) (by rw [k1]; decide) (by rw [k1]; decide), zKI_x z, zKfr_x⟩
  | false =>
    have k1 := k.1
    rw [c] at k1
    rw [if_neg (show ¬ (false = true) by decide)]
    have q := (C.2 s hs).2.2.2.1 c
    have st := p73_0_2 (L := L) (xs := xs) hx hs (s79 hx hs) k1
    obtain ⟨m', hm'⟩ : ∃ m', m' = u3 (u3 m 353 (111 + 7 * s) 0 1) 354 (111 + 7 * s) 0 0 := ⟨_, rfl⟩
    rw [← hm'] at st
    have fr : ∀ g a i, a ≠ 111 + 7 * s → m' g a i = m g a i := fun g a i ha => by rw [hm', u3_a ha, u3_a ha]
    have gr : ∀ g a i, g ≠ 353 → g ≠ 354 → m' g a i = m g a i := fun g a i h1 h2 => by rw [hm', u3_g h2, u3_g h1]
    have e3 : m' 353 (111 + 7 * s) 0 = 1 := by rw [hm', u3_g (by decide), u3_eq]
    have e4 : m' 354 (111 + 7 * s) 0 = 0 := by rw [hm', u3_eq]
    refine ⟨h, m', st, ⟨zGl_m z.1 (fun b hb => gr _ _ _ (by decide) (by decide)) (fun s' hs' => ⟨gr _ _ _ (by decide) (by decide), fun i => gr _ _ _ (by decide) (by decide)⟩), fun b hb => zKB_fr (z.2.1 b hb) (fun g i => fr _ _ _ (by omega)) rfl, fun s' hs' => ?_, (fr _ _ _ (by omega)).trans z.2.2.2.1, z.2.2.2.2⟩, zKfr_w (zKfr_m fun g a i ha => fr _ _ _ (by omega)) (by decide) (by decide)⟩
    by_cases es : s' = s
    · rw [es]
      obtain ⟨k1, k2, k3, k4, k5, k6, k7⟩ := k
      rw [q] at k2 k3 k7
      have k7 : W s = [] := k7
      have cp : zcL m' s = zcL m s ∧ zcp m' s = zcp m s := by
        have e : zcL m' s = zcL m s := fr _ _ _ (by omega)
        refine ⟨e, ?_⟩
        unfold zcp
        rw [e]
        exact List.map_congr_left fun i _ => fr _ _ _ (by omega)
      unfold zKS zacl
      rw [zaC_S, zaQ_S, zaV_S, zaT_S, zaL_S, if_pos rfl, if_pos rfl, if_pos rfl, if_pos rfl, if_pos rfl, cp.1, cp.2, e3, e4, gr 356 _ _ (by decide) (by decide)]
      exact ⟨rfl, k2, k3, k4, ⟨rfl, fun i hi => absurd hi (Nat.not_lt_zero i)⟩, by rw [k7]; rfl, k7⟩
    · exact zKS_fr (z.2.2.1 s' hs') (fun g a i h1 h2 => fr _ _ _ (by omega)) rfl (zup_ne es) (fun b hb => rfl)
/-- replied -/
theorem s74 (z : zKI h m O R W A) (p : Int32) : ∃ h', zCl (zPr L xs) 74 [.ref 100, .int p] (zMH h m) = some (zan (zcR A p).1 (some (.int (nI (zcR A p).2))), zMH h' m) ∧ zKI h' m O R W A ∧ zKfr 1 6 h h' m m := by
  have hx := z.1.1
  rw [en_74]
  unfold zcR
  rcases zsn_c p with ⟨e, -⟩ | ⟨s, hs, ep, e⟩
  · rw [e]
    exact ⟨_, Eq.trans (zEv_go lk_74_0 rfl) (Eq.trans (zEv_go lk_74_1 rfl) (k_cvx (a := 100) lk_74_2 rfl rfl (Or.inl (xT_100 hx)) rfl rfl (rk_79 _) (by decide) (s79n hx e) (zhand_n rfl))), zKI_x z, zKfr_x⟩
  rw [e, ep]
  dsimp only
  have k := z.2.2.1 s hs
  rw [← k.2.2.2.1.2, zcp_len]
  exact ⟨h, p74_0_1 hx hs (s79 hx hs), z, zKfr_w zKfr_rf (by decide) (by decide)⟩
/-- reply -/
theorem s75 (z : zKI h m O R W A) (C : zCI K A) (p i : Int32) : ∃ h', zCl (zPr L xs) 75 [.ref 100, .int p, .int i] (zMH h m) = some (zan (zcY A p i).1 (some (.int (nI (zcY A p i).2))), zMH h' m) ∧ zKI h' m O R W A ∧ zKfr 1 6 h h' m m := by
  have hx := z.1.1
  rw [en_75]
  unfold zcY
  rcases zsn_c p with ⟨e, -⟩ | ⟨s, hs, ep, e⟩
  · rw [e]
    exact ⟨_, Eq.trans (zEv_go lk_75_0 rfl) (Eq.trans (zEv_go lk_75_1 rfl) (k_cvx (a := 100) lk_75_2 rfl rfl (Or.inl (xT_100 hx)) rfl rfl (rk_79 _) (by decide) (s79n hx e) (zhand_n rfl))), zKI_x z, zKfr_x⟩
  rw [e, ep]
  dsimp only
  have k := (z.2.2.1 s hs).2.2.2.1
  have ll : (zaT A s).length = m 301 (113 + 7 * s) 0 := by rw [← k.2]; exact zcp_len
  have lb : m 301 (113 + 7 * s) 0 ≤ 1024 := k.1
  rcases zix_c i (n := (zaT A s).length) (by omega) with ⟨e1, q | ⟨q1, q2⟩⟩ | ⟨j, jl, ei, e1⟩
  · rw [e1]
    exact ⟨_, r75_0_2 hx hs (s79 hx hs) q, zKI_x z, zKfr_x⟩
  · rw [e1]
    rw [ll] at q2
    exact ⟨_, r75_0_1 hx hs (s79 hx hs) q1 (zi_nlt q2), zKI_x z, zKfr_x⟩
  · rw [e1, ei]
    dsimp only
    have g : (zaT A s)[j]? = some (m 0 (114 + 7 * s) j) := by
      rw [← k.2]
      unfold zcp
      rw [List.getElem?_map, List.getElem?_range (by unfold zcL; omega)]
      rfl
    have lt : m 0 (114 + 7 * s) j < 127 := (C.2 s hs).2.2.2.2 _ (List.mem_of_getElem? g)
    rw [g]
    exact ⟨h, p75_0_2 hx hs (s79 hx hs) (by omega) (by omega) (by omega) (by omega) (by omega), z, zKfr_w zKfr_rf (by decide) (by decide)⟩
/-- view -/
theorem s76 (z : zKI h m O R W A) (p : Int32) : zCl (zPr L xs) 76 [.ref 100, .int p] (zMH h m) = some (.inl (some (.int (zcV A p))), zMH h m) := by
  have hx := z.1.1
  rw [en_76]
  unfold zcV
  rcases zsn_c p with ⟨e, q | ⟨q1, q2⟩⟩ | ⟨s, hs, ep, e⟩
  · rw [e]; exact r76_0_2 hx q
  · rw [e]; exact r76_0_1 hx q1 q2
  rw [e, ep]
  dsimp only
  have k := z.2.2.1 s hs
  have kq := k.2.1
  cases q : zaQ A s with
  | none =>
    rw [q] at kq
    exact n76_0_1 hx hs kq
  | some x =>
    rw [q] at kq
    have b4 : x.1 < 4 := by
      have := k.2.2.2.2.2.2
      rw [q] at this
      exact this.1
    rw [if_pos (show (some x).isSome = true from rfl), k.2.2.2.2.2.1, zVs_len, ← (z.1.2.2 s hs).1]
    exact p76_0_1 (bb := x.1) hx hs kq
theorem s81n (hx : zFx h) {p : Int32} (e : zbn p = none) : zCl (zPr L xs) 81 [.ref 100, .int p] (zMH h m) = some (.inl (some (.int (nI false.toNat))), zMH h m) := by
  rw [en_81]
  rcases zbn_c p with ⟨-, q | ⟨q1, q2⟩⟩ | ⟨s, -, -, e'⟩
  · exact r81_0_2 hx q
  · exact r81_0_1 hx q1 q2
  · rw [e] at e'
    cases e'
theorem s81 (hx : zFx h) {b : Nat} (hb : b < 4) (h2 : m 151 (102 + 2 * b) 0 < 2) : zCl (zPr L xs) 81 [.ref 100, .int (nI b)] (zMH h m) = some (.inl (some (.int (nI (decide (m 151 (102 + 2 * b) 0 ≠ 0)).toNat))), zMH h m) := by
  rw [en_81]
  by_cases c : m 151 (102 + 2 * b) 0 = 0
  · rw [decide_eq_false (fun q => q c)]
    exact p81_0_2 hx hb c
  · rw [decide_eq_true c]
    exact p81_0_1 hx hb c
/-- messages -/
theorem s77 (z : zKI h m O R W A) (p : Int32) : zCl (zPr L xs) 77 [.ref 100, .int p] (zMH h m) = some (.inl (some (.int (zcM A p))), zMH h m) := by
  have hx := z.1.1
  unfold zcM
  rcases zbn_c p with ⟨e, -⟩ | ⟨b, hb, ep, e⟩
  · rw [e, en_77]
    exact r77_0_1 hx (y1 := false) (s81n hx e) rfl
  rw [e, ep, en_77]
  dsimp only
  have k := z.2.1 b hb
  have e81 := s81 (L := L) (xs := xs) (m := m) hx hb (by rw [k.1.1]; exact k.1.2)
  by_cases c : (A.1 b).1 = 0
  · rw [if_pos c]
    rw [k.1.1, decide_eq_false (fun q => q c)] at e81
    exact p77_0_2 hx (y1 := false) e81 rfl
  · rw [if_neg c, k.2.2.2.1]
    rw [k.1.1, decide_eq_true c] at e81
    unfold zMs
    rw [List.length_map, ← (z.1.2.1 b hb).1]
    exact p77_0_1 hx (y1 := true) e81 rfl
/-- message -/
theorem s78 (z : zKI h m O R W A) (p i w : Int32) : ∃ h', zCl (zPr L xs) 78 [.ref 100, .int p, .int i, .int w] (zMH h m) = some (zan2 (zcG A p i w).1 (some (.int (nI (zcG A p i w).2))), zMH h' m) ∧ zKI h' m O R W A ∧ zKfr 1 6 h h' m m := by
  have hx := z.1.1
  rw [en_78]
  unfold zcG
  rcases zbn_c p with ⟨e, -⟩ | ⟨b, hb, ep, e⟩
  · rw [e]
    exact ⟨_, r78_0_2 hx (y1 := false) (s81n hx e) rfl, zKI_x z, zKfr_x⟩
  rw [e, ep]
  dsimp only
  have k := z.2.1 b hb
  have gb := z.1.2.1 b hb
  have e81 := s81 (L := L) (xs := xs) (m := m) hx hb (by rw [k.1.1]; exact k.1.2)
  by_cases c : (A.1 b).1 = 0
  · rw [if_pos c]
    rw [k.1.1, decide_eq_false (fun q => q c)] at e81
    exact ⟨_, q78_0_3 hx (y1 := false) e81 rfl, zKI_x z, zKfr_x⟩
  rw [if_neg c]
  rw [k.1.1, decide_eq_true c] at e81
  have ll : (zaM A b).length = m 154 (102 + 2 * b) 0 := by rw [k.2.2.2.1, gb.1]; unfold zMs; exact List.length_map ..
  have l10 : m 154 (102 + 2 * b) 0 ≤ 10 := by rw [gb.1]; exact gb.2.1
  rcases zix_c i (n := (zaM A b).length) (by omega) with ⟨e1, q | ⟨q1, q2⟩⟩ | ⟨j, jl, ei, e1⟩
  · rw [e1]
    exact ⟨_, q78_0_2 hx (y1 := true) e81 rfl q, zKI_x z, zKfr_x⟩
  · rw [e1]
    rw [ll] at q2
    exact ⟨_, q78_0_1 hx (y1 := true) e81 rfl q1 (zi_nlt q2), zKI_x z, zKfr_x⟩
  rw [e1, ei]
  dsimp only
  have jr : j < (R b).length := by rw [← gb.1]; omega
  obtain ⟨v1, ob⟩ := gb.2.2 j jr
  have g : (zaM A b)[j]? = some (zmA O ((R b).getD j 0)) := by
    rw [k.2.2.2.1]
    unfold zMs
    rw [List.getElem?_map, List.getD_eq_getElem?_getD, List.getElem?_eq_getElem jr]
    rfl
  rw [g]
  dsimp only
  obtain ⟨⟨o1, o2, o3⟩, o4, o5, o6, o7, q, o8, o9⟩ := ob
  by_cases w0 : w = nI 0
  · rw [if_pos w0, w0]
    exact ⟨h, p78v0_0_2 hx (y1 := true) e81 rfl (by omega) v1 o3 o4 (by omega) (by omega) (by omega) (by omega) (by omega), z, zKfr_w zKfr_rf (by decide) (by decide)⟩
  rw [if_neg w0]
  by_cases w1 : w = nI 1
  · rw [if_pos w1, w1]
    exact ⟨h, p78v1_0_2 hx (y1 := true) e81 rfl (by omega) v1 o3 o5 (by omega) (by omega) (by omega) (by omega) (by omega), z, zKfr_w zKfr_rf (by decide) (by decide)⟩
  rw [if_neg w1]
  by_cases w2 : w = nI 2
  · rw [if_pos w2, w2]
    exact ⟨h, p78v2_0_2 hx (y1 := true) e81 rfl (by omega) v1 o3 o8 (zSt_t (m := m) o9) (s3 o9), z, zKfr_w zKfr_rf (by decide) (by decide)⟩
  rw [if_neg w2]
  refine ⟨_, p78_0_2 hx (y1 := true) e81 rfl (by omega) v1 ?_, zKI_x z, zKfr_x⟩
  by_cases wn : w < 0
  · exact Or.inl (by have := Int32.lt_iff_toInt_lt.mp wn; exact this)
  · obtain ⟨n, hn, g1, -⟩ := zi_pos w wn
    rw [g1] at w0 w1 w2 ⊢
    rw [zi_inj hn (by decide)] at w0 w1 w2
    rw [zi_toInt hn]
    omega
end
