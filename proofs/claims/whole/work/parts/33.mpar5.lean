/-! ===== keys without others in them ===== -/
def zw1 (t c : Nat → Nat) (f ta : Nat) : Nat → Nat → Bool
  | 0, _ => true
  | k + 1, j => decide (t (f + j) = c (ta + j)) && zw1 t c f ta k (j + 1)
def zw2 (t c : Nat → Nat) (ta tl : Nat) : Nat → Nat → Bool
  | 0, _ => false
  | k + 1, f => zw1 t c f ta tl 0 || zw2 t c ta tl k (f + 1)
theorem zmat_eq (m : zMm) (c : Nat → Nat) (i f : Nat) : ∀ k j, zmat m c i f k j = zw1 (fun q => m 0 140 (6 * i + q)) c f (m 531 132 0) k j := by
  intro k
  induction k with
  | zero => intro j; rfl
  | succ k ih =>
    intro j
    show (decide (m 0 140 (6 * i + f + j) = c (m 531 132 0 + j)) && zmat m c i f k (j + 1)) = (decide (m 0 140 (6 * i + (f + j)) = c (m 531 132 0 + j)) && _)
    rw [ih, Nat.add_assoc]
theorem zwth_eq (m : zMm) (c : Nat → Nat) (i : Nat) : ∀ k f, zwth m c i k f = zw2 (fun q => m 0 140 (6 * i + q)) c (m 531 132 0) (m 532 132 0) k f := by
  intro k
  induction k with
  | zero => intro f; rfl
  | succ k ih =>
    intro f
    show (zmat m c i f (m 532 132 0) 0 || zwth m c i k (f + 1)) = (zw1 _ c f (m 531 132 0) (m 532 132 0) 0 || _)
    rw [ih, zmat_eq]
/-- what keys ask of a view: how many places, the greatest number, a place's number, flags, whether a text is a part of its text -/
abbrev zEnv : Type := Nat × Nat × (Nat → Nat) × (Nat → Nat) × (Nat → Nat → Nat → Bool)
def zenv (m : zMm) (c : Nat → Nat) : zEnv := (znp m, (if znp m = 0 then 0 else zvn m (znp m)), zvn m, (fun n => match zmt m n with
  | some j => m 0 138 j
  | none => 0), fun n ta tl => match zmt m n with
  | some j => zw2 (fun q => m 0 140 (6 * j + q)) c ta tl (m 0 139 j + 1 - tl) 0
  | none => false)
theorem zenv_fr {l : List (Nat × Nat)} {m m' : zMm} {c : Nat → Nat} (hf : zfr l m m') (h0 : ∀ q ∈ l, q ≠ (520, 132) ∧ q ≠ (0, 142) ∧ q ≠ (0, 136) ∧ q ≠ (0, 144) ∧ q ≠ (0, 137) ∧ q ≠ (0, 138) ∧ q ≠ (0, 139) ∧ q ≠ (0, 140) ∧ q ≠ (0, 145) := by decide) : zenv m' c = zenv m c ∧ zmt m' = zmt m ∧ zvn m' = zvn m ∧ znp m' = znp m := by
  have e1 : m' 520 132 0 = m 520 132 0 := hf _ _ _ fun q => (h0 _ q).1 rfl
  have e2 : ∀ i, m' 0 142 i = m 0 142 i := fun i => hf _ _ _ fun q => (h0 _ q).2.1 rfl
  have e3 : ∀ i, m' 0 136 i = m 0 136 i := fun i => hf _ _ _ fun q => (h0 _ q).2.2.1 rfl
  have e4 : ∀ i, m' 0 144 i = m 0 144 i := fun i => hf _ _ _ fun q => (h0 _ q).2.2.2.1 rfl
  have e5 : ∀ i, m' 0 137 i = m 0 137 i := fun i => hf _ _ _ fun q => (h0 _ q).2.2.2.2.1 rfl
  have e6 : ∀ i, m' 0 138 i = m 0 138 i := fun i => hf _ _ _ fun q => (h0 _ q).2.2.2.2.2.1 rfl
  have e7 : ∀ i, m' 0 139 i = m 0 139 i := fun i => hf _ _ _ fun q => (h0 _ q).2.2.2.2.2.2.1 rfl
  have e8 : ∀ i, m' 0 140 i = m 0 140 i := fun i => hf _ _ _ fun q => (h0 _ q).2.2.2.2.2.2.2.1 rfl
  have e9 : ∀ i, m' 0 145 i = m 0 145 i := fun i => hf _ _ _ fun q => (h0 _ q).2.2.2.2.2.2.2.2 rfl
  have e10 : zsb m' = zsb m := by unfold zsb; rw [e1, e2]
  have e11 : znp m' = znp m := by unfold znp; rw [e1, e4]
  have e12 : zvn m' = zvn m := by funext n; unfold zvn; rw [e1, e9]
  have e13 : zmt m' = zmt m := by
    funext n
    unfold zmt
    rw [e10, e12, e3, show (fun i => m' 0 137 i) = (fun i => m 0 137 i) from funext e5]
  refine ⟨?_, e13, e12, e11⟩
  unfold zenv
  rw [e11, e12, e13]
  refine congrArg (fun z => (znp m, (if znp m = 0 then 0 else zvn m (znp m)), zvn m, z)) ?_
  refine Prod.ext ?_ ?_
  · funext n
    dsimp only
    cases zmt m n with
    | none => rfl
    | some j => exact e6 j
  · funext n ta tl
    dsimp only
    cases zmt m n with
    | none => rfl
    | some j =>
      show zw2 (fun q => m' 0 140 (6 * j + q)) c ta tl (m' 0 139 j + 1 - tl) 0 = zw2 (fun q => m 0 140 (6 * j + q)) c ta tl (m 0 139 j + 1 - tl) 0
      rw [e7, show (fun q => m' 0 140 (6 * j + q)) = (fun q => m 0 140 (6 * j + q)) from funext fun q => e8 _]
abbrev zHd : Type := Nat → Bool
/-- a key without others in it: where it ends, whether it is wrong, for which places it holds -/
def zleaf (c : Nat → Nat) (E : zEnv) (p : Nat) : Option (Nat × Bool × zHd) :=
  if zlrg (c p) = false then (match zset c 64 p with
    | none => none
    | some (l, e) => some (e, zrsw l E.1, fun n => zrsin l n E.1))
  else if zwn c p = 1488977920 then some (zre zlrg c p, false, fun _ => true)
  else if zwn c p = 8643411968 then (if c (zre zlrg c p) = 32 ∧ zbit (c (zre zlrg c p + 1)) ≠ 0 then some (zre zlrg c p + 2, false, fun n => decide (E.2.2.2.1 n &&& zbit (c (zre zlrg c p + 1)) ≠ 0)) else none)
  else if zwn c p = 21668429824 then (if c (zre zlrg c p) = 32 ∧ (1 ≤ zre zsml c (zre zlrg c p + 1) - (zre zlrg c p + 1) ∧ zre zsml c (zre zlrg c p + 1) - (zre zlrg c p + 1) ≤ 6) then some (zre zsml c (zre zlrg c p + 1), false, fun n => E.2.2.2.2 n (zre zlrg c p + 1) (zre zsml c (zre zlrg c p + 1) - (zre zlrg c p + 1))) else none)
  else if zwn c p = 22854762496 then (if c (zre zlrg c p) = 32 then (match zset c 64 (zre zlrg c p + 1) with
    | none => none
    | some (l, e) => some (e, false, fun n => zrsin l (E.2.2.1 n) E.2.1)) else none)
  else none
section
variable {L : Nat} {xs : Nat → Int32} {h : zH} {m : zMm} {c : Nat → Nat}
theorem zsecn {v : Value} : Slot.val v ≠ .second := fun q => by cases q
theorem zsecu : Slot.unset ≠ .second := fun q => by cases q
theorem s111w (hx : zFx h) (hl : zLC m c) {n : Nat} {z y : Bool} {w2 w3 w4 : Slot} (hn : n < 2147483648)
    (hy : n ≠ 0 → zCl (zPr L xs) 108 [.ref 132, .int (nI n), .int (nI 0)] (zMH h (u3 m 523 132 0 z.toNat)) = some (.inl (some (.int (nI y.toNat))), zMH h (u3 m 523 132 0 z.toNat))) :
    ∃ v : Bool, zEv (zPr L xs) 4 111 53 [.val (.ref 132), .val (.int (nI n)), w2, w3, w4] [.int (nI z.toNat), .ref 132] (zMH h m) = some (.inl (some (.int (nI v.toNat))), zMH h (u3 m 523 132 0 z.toNat)) ∧ (n ≠ 0 → v = y) := by
  have hl2 : zLC (u3 m 523 132 0 z.toNat) c := zLC_fr hl (zfr_u (l := [(523, 132)]) (zfr_rf _ _) (by decide))
  by_cases c1 : n = 0
  · refine ⟨false, ?_, fun q => absurd c1 q⟩
    rw [p111_53_3 hx hl c1, p111_73_1 hx hl2, p111_74_1 hx hl2]
  · refine ⟨y, ?_, fun _ => rfl⟩
    cases y with
    | true => rw [p111_53_1 hx hl c1 (hy c1) rfl, p111_74_1 hx hl2]
    | false => rw [p111_53_2 hx hl c1 (hy c1) rfl, p111_73_1 hx hl2, p111_74_1 hx hl2]
/-- a key without others in it -/
theorem s111 (hx : zFx h) (hl : zLC m c) {n : Nat} (hn : n ≤ 40) (hv : n ≠ 0 → zVB m) (h40 : znp m ≤ 40) (ha : m 521 132 0 ≤ 64) (hb : m 522 132 0 = 0) (hw : m 523 132 0 ≤ 1) (hm : n ≠ 0 → ∃ j, zmt m n = some j) (hok : n ≠ 0 → zleaf c (zenv m c) (m 521 132 0) ≠ none) :
    ∃ (m' : zMm) (v : Bool), zCl (zPr L xs) 111 [.ref 132, .int (nI n)] (zMH h m) = some (.inl (some (.int (nI v.toNat))), zMH h m') ∧ zfr [(521, 132), (522, 132), (523, 132), (527, 132), (528, 132), (531, 132), (532, 132)] m m' ∧ m' 522 132 0 ≤ 1 ∧ m' 523 132 0 ≤ 1 ∧ match zleaf c (zenv m c) (m 521 132 0) with
      | none => m' 522 132 0 = 1
      | some (e, w, k) => m' 522 132 0 = 0 ∧ m' 521 132 0 = e ∧ m' 523 132 0 = (if w then 1 else m 523 132 0) ∧ (n ≠ 0 → v = k n) := by
  have hc := hl.2.2
  have F : ∀ {l : List (Nat × Nat)} {m1 : zMm}, zfr l m m1 → (∀ q ∈ l, q ∈ [(521, 132), (522, 132), (523, 132), (527, 132), (528, 132), (531, 132), (532, 132)]) → zfr [(521, 132), (522, 132), (523, 132), (527, 132), (528, 132), (531, 132), (532, 132)] m m1 := fun f s => zfr_w f s
  have T : ∀ {l : List (Nat × Nat)} {m1 m2 : zMm}, zfr [(521, 132), (522, 132), (523, 132), (527, 132), (528, 132), (531, 132), (532, 132)] m m1 → zfr l m1 m2 → (∀ q ∈ l, q ∈ [(521, 132), (522, 132), (523, 132), (527, 132), (528, 132), (531, 132), (532, 132)]) → zfr [(521, 132), (522, 132), (523, 132), (527, 132), (528, 132), (531, 132), (532, 132)] m m2 := fun f g s => zfr_tr f g (fun _ q => q) s
  have V : ∀ {m1 : zMm}, zfr [(521, 132), (522, 132), (523, 132), (527, 132), (528, 132), (531, 132), (532, 132)] m m1 → n ≠ 0 → zVB m1 := fun f q => zVB_fr (hv q) f
  have EN : ∀ {m1 : zMm}, zfr [(521, 132), (522, 132), (523, 132), (527, 132), (528, 132), (531, 132), (532, 132)] m m1 → zenv m1 c = zenv m c ∧ zmt m1 = zmt m ∧ zvn m1 = zvn m ∧ znp m1 = znp m := fun f => zenv_fr f
  rw [en_111]
  unfold zleaf at hok ⊢
  by_cases c1 : zlrg (c (m 521 132 0)) = false
  · -- a set
    rw [if_pos c1] at hok ⊢
    obtain ⟨m1, e1, f1, g1, g2, g3, g4, g5, g6⟩ := s102 (L := L) (xs := xs) hx hl ha (by omega)
    have hl1 := zLC_fr hl f1
    have F1 := F f1 (by decide)
    have g6 := g6 hb
    have w1 : m1 523 132 0 = m 523 132 0 := f1 _ _ _ (by decide)
    cases hz : zset c 64 (m 521 132 0) with
    | none =>
      rw [hz] at g6 hok
      dsimp only at g6 hok ⊢
      have n0 : n = 0 := Decidable.byContradiction fun q => hok q rfl
      by_cases c2 : m1 523 132 0 = 0
      · obtain ⟨v, e2, -⟩ := s111w (L := L) (xs := xs) (z := false) (y := false) (w2 := .unset) (w3 := .unset) (w4 := .unset) hx hl1 (by omega) (fun q => absurd n0 q)
        exact ⟨_, v, (p111_0_3 hx hl c1 e1 c2 (by rw [g6]; decide)).trans ((p111_52_1 hx hl1).trans e2), T F1 (zfr_u (l := [(523, 132)]) (zfr_rf _ _) (by decide)) (by decide), g2, by show 0 ≤ 1; omega, g6⟩
      · obtain ⟨v, e2, -⟩ := s111w (L := L) (xs := xs) (z := true) (y := false) (w2 := .unset) (w3 := .unset) (w4 := .unset) hx hl1 (by omega) (fun q => absurd n0 q)
        exact ⟨_, v, (p111_0_4 hx hl c1 e1 c2).trans ((p111_48_1 hx hl1).trans e2), T F1 (zfr_u (l := [(523, 132)]) (zfr_rf _ _) (by decide)) (by decide), g2, by show 1 ≤ 1; omega, g6⟩
    | some le =>
      obtain ⟨l, e⟩ := le
      rw [hz] at g6
      dsimp only at g6 ⊢
      have hse : m1 528 132 0 = e := g4.trans g6.2
      have e106 := s106 (L := L) (xs := xs) (m := m1) (n := znp m) hx hl1 hz ha (EN F1).2.2.2 h40
      rw [← g3, ← hse] at e106
      have Z : ∀ z : Bool, ∃ v : Bool, zEv (zPr L xs) 4 111 53 [.val (.ref 132), .val (.int (nI n)), .unset, .unset, .unset] [.int (nI z.toNat), .ref 132] (zMH h m1) = some (.inl (some (.int (nI v.toNat))), zMH h (u3 m1 523 132 0 z.toNat)) ∧ (n ≠ 0 → v = zrsin l n (znp m)) := fun z => by
        refine s111w (L := L) (xs := xs) hx hl1 (by omega) (fun q => ?_)
        have hl2 : zLC (u3 m1 523 132 0 z.toNat) c := zLC_fr hl1 (zfr_u (l := [(523, 132)]) (zfr_rf _ _) (by decide))
        have F2 := T F1 (zfr_u (l := [(523, 132)]) (x := z.toNat) (zfr_rf _ m1) (g := 523) (a := 132) (i := 0) (by decide)) (by decide)
        have := s108 (L := L) (xs := xs) (q := false) (n := n) hx hl2 (V F2 q) (l := l) (f := 64) (by show zset c 64 (m1 527 132 0) = some (l, m1 528 132 0); rw [g3, hse]; exact hz) (by show m1 527 132 0 ≤ 64; omega) (by omega)
        rw [(EN F2).2.2.2] at this
        exact this
      have fin : ∀ z : Bool, zfr [(521, 132), (522, 132), (523, 132), (527, 132), (528, 132), (531, 132), (532, 132)] m (u3 m1 523 132 0 z.toNat) := fun z => T F1 (zfr_u (l := [(523, 132)]) (zfr_rf _ _) (by decide)) (by decide)
      by_cases c2 : m1 523 132 0 = 0
      · cases hy : zrsw l (znp m) with
        | true =>
          rw [hy] at e106
          obtain ⟨v, e2, e3⟩ := Z true
          refine ⟨_, v, (p111_0_1 hx hl c1 e1 c2 g6.1 e106 rfl).trans ((p111_48_1 hx hl1).trans e2), fin _, g2, by show 1 ≤ 1; omega, g6.1, g6.2, ?_, e3⟩
          rw [show zrsw l (zenv m c).1 = true from hy, if_pos rfl]; rfl
        | false =>
          rw [hy] at e106
          obtain ⟨v, e2, e3⟩ := Z false
          refine ⟨_, v, (p111_0_2 hx hl c1 e1 c2 g6.1 e106 rfl).trans ((p111_52_1 hx hl1).trans e2), fin _, g2, by show 0 ≤ 1; omega, g6.1, g6.2, ?_, e3⟩
          rw [show zrsw l (zenv m c).1 = false from hy, if_neg (by decide), ← w1, c2]; rfl
      · obtain ⟨v, e2, e3⟩ := Z true
        refine ⟨_, v, (p111_0_4 hx hl c1 e1 c2).trans ((p111_48_1 hx hl1).trans e2), fin _, g2, by show 1 ≤ 1; omega, g6.1, g6.2, ?_, e3⟩
        have : m 523 132 0 = 1 := by omega
        rw [this, ite_self]; rfl
  · rw [if_neg c1] at hok ⊢
    have c1 : zlrg (c (m 521 132 0)) = true := by cases q : zlrg (c (m 521 132 0)) with | true => rfl | false => exact absurd q c1
    have h48 : m 521 132 0 < 48 := zre_lt hc rfl c1
    obtain ⟨m1, e1, f1, g1⟩ := s95 (L := L) (xs := xs) hx hl (by omega)
    have hl1 := zLC_fr hl f1
    have F1 := F f1 (by decide)
    have b1 : m1 522 132 0 = 0 := (f1 _ _ _ (by decide)).trans hb
    have w1 : m1 523 132 0 = m 523 132 0 := f1 _ _ _ (by decide)
    have hy := zwn_lt hc (m 521 132 0)
    have hr := (zre_ge hc (f := zlrg) rfl (m 521 132 0)).2.1 (by omega)
    by_cases c2 : zwn c (m 521 132 0) = 1488977920
    · -- ALL
      rw [if_pos c2]
      exact ⟨m1, true, p111_0_5 hx hl c1 e1 c2, F1, by omega, by omega, b1, g1, by rw [w1]; rfl, fun _ => rfl⟩
    · rw [if_neg c2] at hok ⊢
      by_cases c3 : zwn c (m 521 132 0) = 8643411968
      · -- HAS
        rw [if_pos c3] at hok ⊢
        obtain ⟨m2, e2, f2, g2⟩ := s96 (L := L) (xs := xs) hx hl1 32 (by omega)
        have hl2 := zLC_fr hl1 f2
        have F2 := T F1 f2 (by decide)
        have w2 : m2 523 132 0 = m 523 132 0 := (f2 _ _ _ (by decide)).trans w1
        have hbt := zbit_le (c (m2 521 132 0))
        have a2 : m2 521 132 0 ≤ 49 := by rcases g2 with g | g <;> omega
        -- the end from 155
        have fin : ∀ z : Bool, zfr [(521, 132), (522, 132), (523, 132), (527, 132), (528, 132), (531, 132), (532, 132)] m (u3 (u3 m2 522 132 0 z.toNat) 521 132 0 (m2 521 132 0 + 1)) := fun z => T F2 (zfr_u (l := [(522, 132), (521, 132)]) (zfr_u (zfr_rf _ _) (by decide)) (by decide)) (by decide)
        have tail : ∀ (z : Bool), ∀ w2 w3 : Slot, ∃ v : Bool, zEv (zPr L xs) 4 111 155 [.val (.ref 132), .val (.int (nI n)), w2, w3, .val (.int (nI (zbit (c (m2 521 132 0)))))] [.int (nI z.toNat), .ref 132] (zMH h m2) = some (.inl (some (.int (nI v.toNat))), zMH h (u3 (u3 m2 522 132 0 z.toNat) 521 132 0 (m2 521 132 0 + 1))) ∧ (n ≠ 0 → v = decide ((zenv m c).2.2.2.1 n &&& zbit (c (m2 521 132 0)) ≠ 0)) := by
          intro z w2 w3
          have hl3 : zLC (u3 (u3 m2 522 132 0 z.toNat) 521 132 0 (m2 521 132 0 + 1)) c := zLC_fr hl (fin z)
          by_cases n0 : n = 0
          · refine ⟨false, ?_, fun q => absurd n0 q⟩
            rw [p111_155_3 hx hl2 n0, p111_192_1 hx hl3, p111_193_1 hx hl3]
          · obtain ⟨j, hj⟩ := hm n0
            have hj40 : j < 40 := by
              have h1 := hv n0
              have := zfi_some hj
              have h2 := h1.2.1
              have h3 := h1.2.2.1
              omega
            have e109 := s109 (L := L) (xs := xs) hx hl3 (V (fin z) n0) (n := n) (by omega)
            rw [(EN (fin z)).2.1, hj] at e109
            have hfl : m2 0 138 j = m 0 138 j := F2 _ _ _ (by decide)
            have henv : (zenv m c).2.2.2.1 n = m 0 138 j := by
              show (match zmt m n with | some j => m 0 138 j | none => 0) = _
              rw [hj]
            refine ⟨decide ((m 0 138 j) &&& zbit (c (m2 521 132 0)) ≠ 0), ?_, fun _ => by rw [henv]⟩
            have hlt : (m2 0 138 j) &&& zbit (c (m2 521 132 0)) < 2147483648 := by
              have : (m2 0 138 j) &&& zbit (c (m2 521 132 0)) ≤ zbit (c (m2 521 132 0)) := Nat.and_le_right
              omega
            by_cases c5 : (m 0 138 j) &&& zbit (c (m2 521 132 0)) = 0
            · rw [p111_155_2 hx hl2 n0 e109 (by rw [hfl]; exact c5), p111_192_1 hx hl3, p111_193_1 hx hl3, decide_eq_false (fun q => q c5)]
            · rw [p111_155_1 hx hl2 n0 e109 (by rw [hfl]; exact c5), p111_193_1 hx hl3, decide_eq_true c5]
        have hbb : m2 522 132 0 = 0 ∨ m2 522 132 0 = 1 := by rcases g2 with g | g <;> omega
        by_cases c4 : m2 522 132 0 = 0
        · have g2 : c (m1 521 132 0) = 32 ∧ m2 521 132 0 = m1 521 132 0 + 1 := by rcases g2 with g | g <;> omega
          rw [g1] at g2
          have hle : zre zlrg c (m 521 132 0) < 48 := Nat.lt_of_not_le fun q => by have := g2.1; rw [hc.1 _ q] at this; cases this
          by_cases c5 : zbit (c (m2 521 132 0)) = 0
          · have hno : ¬ (c (zre zlrg c (m 521 132 0)) = 32 ∧ zbit (c (zre zlrg c (m 521 132 0) + 1)) ≠ 0) := fun q => q.2 (by rw [← g2.2]; exact c5)
            rw [if_neg hno] at hok ⊢
            have n0 : n = 0 := Decidable.byContradiction fun q => hok q rfl
            obtain ⟨v, q1, q2⟩ := tail true (.val (.long (nL (zwn c (m 521 132 0))))) .second
            exact ⟨_, v, (p111_0_6 hx hl c1 e1 c2 c3 e2 hl2 c4 c5).trans ((p111_150_1 hx hl2).trans q1), fin true, by show 1 ≤ 1; omega, by show m2 523 132 0 ≤ 1; omega, rfl⟩
          · have hyes : c (zre zlrg c (m 521 132 0)) = 32 ∧ zbit (c (zre zlrg c (m 521 132 0) + 1)) ≠ 0 := ⟨g2.1, by rw [← g2.2]; exact c5⟩
            rw [if_pos hyes]
            obtain ⟨v, q1, q2⟩ := tail false (.val (.long (nL (zwn c (m 521 132 0))))) .second
            refine ⟨_, v, (p111_0_7 hx hl c1 e1 c2 c3 e2 hl2 c4 c5).trans q1, fin false, by show 0 ≤ 1; omega, by show m2 523 132 0 ≤ 1; omega, rfl, ?_, by rw [← w2]; rfl, fun q => ?_⟩
            · show m2 521 132 0 + 1 = zre zlrg c (m 521 132 0) + 2; omega
            · rw [q2 q, g2.2]
        · have g2 : c (m1 521 132 0) ≠ 32 := by rcases g2 with g | g <;> omega
          rw [g1] at g2
          rw [if_neg (fun q => g2 q.1)] at hok ⊢
          have n0 : n = 0 := Decidable.byContradiction fun q => hok q rfl
          obtain ⟨v, q1, q2⟩ := tail true (.val (.long (nL (zwn c (m 521 132 0))))) .second
          exact ⟨_, v, (p111_0_8 hx hl c1 e1 c2 c3 e2 hl2 c4).trans ((p111_150_1 hx hl2).trans q1), fin true, by show 1 ≤ 1; omega, by show m2 523 132 0 ≤ 1; omega, rfl⟩
      · rw [if_neg c3] at hok ⊢
        by_cases c4 : zwn c (m 521 132 0) = 21668429824
        · -- TEXT
          rw [if_pos c4] at hok ⊢
          obtain ⟨m2, e2, f2, g2⟩ := s96 (L := L) (xs := xs) hx hl1 32 (by omega)
          have hl2 := zLC_fr hl1 f2
          have F2 := T F1 f2 (by decide)
          have w2 : m2 523 132 0 = m 523 132 0 := (f2 _ _ _ (by decide)).trans w1
          have a2 : m2 521 132 0 ≤ 49 := by rcases g2 with g | g <;> omega
          have hbb : m2 522 132 0 ≤ 1 := by rcases g2 with g | g <;> omega
          obtain ⟨m3, e3, f3, k1, k2, k3, k4, k5, k6⟩ := s100 (L := L) (xs := xs) hx hl2 (by omega) hbb
          have hl3 := zLC_fr hl2 f3
          have F3 := T F2 f3 (by decide)
          have w3 : m3 523 132 0 = m 523 132 0 := (f3 _ _ _ (by decide)).trans w2
          rw [g1] at g2
          have hiff : (c (zre zlrg c (m 521 132 0)) = 32 ∧ (1 ≤ zre zsml c (zre zlrg c (m 521 132 0) + 1) - (zre zlrg c (m 521 132 0) + 1) ∧ zre zsml c (zre zlrg c (m 521 132 0) + 1) - (zre zlrg c (m 521 132 0) + 1) ≤ 6) ∧ m3 522 132 0 = 0 ∧ m2 521 132 0 = zre zlrg c (m 521 132 0) + 1) ∨ (¬ (c (zre zlrg c (m 521 132 0)) = 32 ∧ (1 ≤ zre zsml c (zre zlrg c (m 521 132 0) + 1) - (zre zlrg c (m 521 132 0) + 1) ∧ zre zsml c (zre zlrg c (m 521 132 0) + 1) - (zre zlrg c (m 521 132 0) + 1) ≤ 6)) ∧ m3 522 132 0 = 1) := by
            rcases g2 with ⟨a1, a2, a3⟩ | ⟨a1, a2, a3⟩
            · have k6 := k6 (by omega)
              rw [a2] at k6
              by_cases q : 1 ≤ zre zsml c (zre zlrg c (m 521 132 0) + 1) - (zre zlrg c (m 521 132 0) + 1) ∧ zre zsml c (zre zlrg c (m 521 132 0) + 1) - (zre zlrg c (m 521 132 0) + 1) ≤ 6
              · rw [if_pos q] at k6; exact Or.inl ⟨a1, q, k6, a2⟩
              · rw [if_neg q] at k6; exact Or.inr ⟨fun z => q z.2, k6⟩
            · exact Or.inr ⟨fun z => a1 z.1, k5 a3⟩
          rcases hiff with ⟨h1, h2, h3, h4⟩ | ⟨h1, h2⟩
          · rw [if_pos ⟨h1, h2⟩]
            rw [h4] at k1 k2 k3
            have fin : ∀ v : Bool, (n ≠ 0 → v = (zenv m c).2.2.2.2 n (zre zlrg c (m 521 132 0) + 1) (zre zsml c (zre zlrg c (m 521 132 0) + 1) - (zre zlrg c (m 521 132 0) + 1))) → zEv (zPr L xs) 4 111 0 [.val (.ref 132), .val (.int (nI n)), .unset, .unset, .unset] [] (zMH h m) = some (.inl (some (.int (nI v.toNat))), zMH h m3) → ∃ (m' : zMm) (v : Bool), zEv (zPr L xs) 4 111 0 [.val (.ref 132), .val (.int (nI n)), .unset, .unset, .unset] [] (zMH h m) = some (.inl (some (.int (nI v.toNat))), zMH h m') ∧ zfr [(521, 132), (522, 132), (523, 132), (527, 132), (528, 132), (531, 132), (532, 132)] m m' ∧ m' 522 132 0 ≤ 1 ∧ m' 523 132 0 ≤ 1 ∧ m' 522 132 0 = 0 ∧ m' 521 132 0 = zre zsml c (zre zlrg c (m 521 132 0) + 1) ∧ m' 523 132 0 = (if false = true then 1 else m 523 132 0) ∧ (n ≠ 0 → v = (zenv m c).2.2.2.2 n (zre zlrg c (m 521 132 0) + 1) (zre zsml c (zre zlrg c (m 521 132 0) + 1) - (zre zlrg c (m 521 132 0) + 1))) := fun v q e => ⟨m3, v, e, F3, by omega, by omega, h3, k2, by rw [w3]; rfl, q⟩
            by_cases n0 : n = 0
            · exact fin false (fun q => absurd n0 q) ((p111_0_11 hx hl c1 e1 c2 c3 c4 e2 e3 n0).trans ((p111_243_1 hx hl3).trans (p111_244_1 hx hl3)))
            · obtain ⟨j, hj⟩ := hm n0
              have hV := V F3 n0
              have hj40 : j < 40 := by
                have h1 := hv n0
                have := zfi_some hj
                have h2 := h1.2.1
                have h3 := h1.2.2.1
                omega
              have e109 := s109 (L := L) (xs := xs) hx hl3 hV (n := n) (by omega)
              rw [(EN F3).2.1, hj] at e109
              have e110 := s110 (L := L) (xs := xs) hx hl3 hV hj40 (by rw [k1]; have := zre_lt hc (f := zlrg) rfl c1; omega) (by rw [k3]; exact h2)
              have hval : zwth m3 c j (m3 0 139 j + 1 - m3 532 132 0) 0 = (zenv m c).2.2.2.2 n (zre zlrg c (m 521 132 0) + 1) (zre zsml c (zre zlrg c (m 521 132 0) + 1) - (zre zlrg c (m 521 132 0) + 1)) := by
                have t1 : ∀ q, m3 0 140 q = m 0 140 q := fun q => F3 _ _ _ (by decide)
                have t2 : m3 0 139 j = m 0 139 j := F3 _ _ _ (by decide)
                show _ = (match zmt m n with | some j => zw2 (fun q => m 0 140 (6 * j + q)) c (zre zlrg c (m 521 132 0) + 1) (zre zsml c (zre zlrg c (m 521 132 0) + 1) - (zre zlrg c (m 521 132 0) + 1)) (m 0 139 j + 1 - (zre zsml c (zre zlrg c (m 521 132 0) + 1) - (zre zlrg c (m 521 132 0) + 1))) 0 | none => false)
                rw [hj, zwth_eq, k1, k3, t2, show (fun q => m3 0 140 (6 * j + q)) = (fun q => m 0 140 (6 * j + q)) from funext fun q => t1 _]
              rw [hval] at e110
              cases hq : (zenv m c).2.2.2.2 n (zre zlrg c (m 521 132 0) + 1) (zre zsml c (zre zlrg c (m 521 132 0) + 1) - (zre zlrg c (m 521 132 0) + 1)) with
              | true =>
                rw [hq] at e110
                exact fin true (fun _ => hq.symm) ((p111_0_9 hx hl c1 e1 c2 c3 c4 e2 e3 n0 e109 e110 rfl).trans (p111_244_1 hx hl3))
              | false =>
                rw [hq] at e110
                exact fin false (fun _ => hq.symm) ((p111_0_10 hx hl c1 e1 c2 c3 c4 e2 e3 n0 e109 e110 rfl).trans ((p111_243_1 hx hl3).trans (p111_244_1 hx hl3)))
          · rw [if_neg h1] at hok ⊢
            have n0 : n = 0 := Decidable.byContradiction fun q => hok q rfl
            exact ⟨m3, false, (p111_0_11 hx hl c1 e1 c2 c3 c4 e2 e3 n0).trans ((p111_243_1 hx hl3).trans (p111_244_1 hx hl3)), F3, by omega, by omega, h2⟩
        · rw [if_neg c4] at hok ⊢
          by_cases c5 : zwn c (m 521 132 0) = 22854762496
          · -- UID
            rw [if_pos c5] at hok ⊢
            obtain ⟨m2, e2, f2, g2⟩ := s96 (L := L) (xs := xs) hx hl1 32 (by omega)
            have hl2 := zLC_fr hl1 f2
            have F2 := T F1 f2 (by decide)
            have w2 : m2 523 132 0 = m 523 132 0 := (f2 _ _ _ (by decide)).trans w1
            have a2 : m2 521 132 0 ≤ 49 := by rcases g2 with g | g <;> omega
            have hbb : m2 522 132 0 ≤ 1 := by rcases g2 with g | g <;> omega
            obtain ⟨m3, e3, f3, k1, k2, k3, k4, k5, k6⟩ := s102 (L := L) (xs := xs) hx hl2 (by omega) hbb
            have hl3 := zLC_fr hl2 f3
            have F3 := T F2 f3 (by decide)
            have w3 : m3 523 132 0 = m 523 132 0 := (f3 _ _ _ (by decide)).trans w2
            rw [g1] at g2
            have bad : m3 522 132 0 = 1 → (n = 0) → ∃ (m' : zMm) (v : Bool), zEv (zPr L xs) 4 111 0 [.val (.ref 132), .val (.int (nI n)), .unset, .unset, .unset] [] (zMH h m) = some (.inl (some (.int (nI v.toNat))), zMH h m') ∧ zfr [(521, 132), (522, 132), (523, 132), (527, 132), (528, 132), (531, 132), (532, 132)] m m' ∧ m' 522 132 0 ≤ 1 ∧ m' 523 132 0 ≤ 1 ∧ m' 522 132 0 = 1 := fun q n0 => ⟨m3, false, (p111_0_14 hx hl c1 e1 c2 c3 c4 c5 e2 e3 n0).trans ((p111_290_1 hx hl3).trans (p111_291_1 hx hl3)), F3, by omega, by omega, q⟩
            rcases g2 with ⟨h1, h2, h3⟩ | ⟨h1, h2, h3⟩
            · rw [if_pos h1] at hok ⊢
              have k6 := k6 (by omega)
              rw [h2] at k6 k3
              cases hz : zset c 64 (zre zlrg c (m 521 132 0) + 1) with
              | none =>
                rw [hz] at k6 hok
                dsimp only at k6 hok ⊢
                exact bad k6 (Decidable.byContradiction fun q => hok q rfl)
              | some le =>
                obtain ⟨l, e⟩ := le
                rw [hz] at k6
                dsimp only at k6 ⊢
                have fin : ∀ v : Bool, (n ≠ 0 → v = zrsin l ((zenv m c).2.2.1 n) (zenv m c).2.1) → zEv (zPr L xs) 4 111 0 [.val (.ref 132), .val (.int (nI n)), .unset, .unset, .unset] [] (zMH h m) = some (.inl (some (.int (nI v.toNat))), zMH h m3) → ∃ (m' : zMm) (v : Bool), zEv (zPr L xs) 4 111 0 [.val (.ref 132), .val (.int (nI n)), .unset, .unset, .unset] [] (zMH h m) = some (.inl (some (.int (nI v.toNat))), zMH h m') ∧ zfr [(521, 132), (522, 132), (523, 132), (527, 132), (528, 132), (531, 132), (532, 132)] m m' ∧ m' 522 132 0 ≤ 1 ∧ m' 523 132 0 ≤ 1 ∧ m' 522 132 0 = 0 ∧ m' 521 132 0 = e ∧ m' 523 132 0 = (if false = true then 1 else m 523 132 0) ∧ (n ≠ 0 → v = zrsin l ((zenv m c).2.2.1 n) (zenv m c).2.1) := fun v q e => ⟨m3, v, e, F3, by omega, by omega, k6.1, k6.2, by rw [w3]; rfl, q⟩
                by_cases n0 : n = 0
                · exact fin false (fun q => absurd n0 q) ((p111_0_14 hx hl c1 e1 c2 c3 c4 c5 e2 e3 n0).trans ((p111_290_1 hx hl3).trans (p111_291_1 hx hl3)))
                · have hV := V F3 n0
                  have e108 := s108 (L := L) (xs := xs) (q := true) (n := n) (l := l) (f := 64) hx hl3 hV (by rw [k3, k4, k6.2]; exact hz) (by omega) (by omega)
                  rw [(EN F3).2.2.1, (EN F3).2.2.2] at e108
                  have e108 : zCl (zPr L xs) 108 [.ref 132, .int (nI n), .int (nI 1)] (zMH h m3) = some (.inl (some (.int (nI (zrsin l ((zenv m c).2.2.1 n) (zenv m c).2.1).toNat))), zMH h m3) := e108
                  cases hq : zrsin l ((zenv m c).2.2.1 n) (zenv m c).2.1 with
                  | true =>
                    rw [hq] at e108 fin
                    exact fin true (fun _ => rfl) ((p111_0_12 hx hl c1 e1 c2 c3 c4 c5 e2 e3 n0 e108 rfl).trans (p111_291_1 hx hl3))
                  | false =>
                    rw [hq] at e108 fin
                    exact fin false (fun _ => rfl) ((p111_0_13 hx hl c1 e1 c2 c3 c4 c5 e2 e3 n0 e108 rfl).trans ((p111_290_1 hx hl3).trans (p111_291_1 hx hl3)))
            · rw [if_neg h1] at hok ⊢
              exact bad (k5 h3) (Decidable.byContradiction fun q => hok q rfl)
          · rw [if_neg c5] at hok ⊢
            have n0 : n = 0 := Decidable.byContradiction fun q => hok q rfl
            exact ⟨_, false, p111_0_15 hx hl c1 e1 c2 c3 c4 c5, T F1 (zfr_u (l := [(522, 132)]) (zfr_rf _ _) (by decide)) (by decide), by show 1 ≤ 1; omega, by show m1 523 132 0 ≤ 1; omega, rfl⟩
end
