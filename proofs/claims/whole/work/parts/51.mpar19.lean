/-! ===== the reference searches ===== -/
def zfn1 (M : List zMg) (V : List (Nat × Nat)) (u : Bool) (n : Nat) (T : List Nat) : List Nat := match V[n - 1]? with
  | none => T
  | some (v, _) => match zfind M v with
    | none => T
    | some _ => T ++ ([32] ++ zds (if u then v else n))
abbrev zfF : List (Nat × Nat) := [(521, 132), (522, 132), (523, 132), (527, 132), (528, 132), (531, 132), (532, 132), (535, 132), (0, 151), (0, 152), (0, 153), (0, 149), (0, 150)]
/-- the reply besides, the parser's cells apart -/
def zSay2 (m m' : zMm) (t : List Nat) : Prop := zfr zfF m m' ∧ zrt m' = zrt m ++ t ∧ zRL m' = zRL m + t.length ∧ (∀ j, j ≠ m 520 132 0 → m' 0 150 j = m 0 150 j) ∧ ∀ j, j / 2048 ≠ m 520 132 0 → m' 0 149 j = m 0 149 j
theorem zSay2_of {m m' : zMm} {t : List Nat} (h : zSay m m' t) : zSay2 m m' t := ⟨zfr_w h.1 (by decide), h.2⟩
theorem zSay2_rf (m : zMm) : zSay2 m m [] := zSay2_of (zSay_rf m)
theorem zSay2_S {m m' : zMm} (h : zfr zfS m m') : zSay2 m m' [] := by
  have e := zrt_fr (m := m) (m' := m') (h _ _ _ (by decide)) (fun q => h _ _ _ (by decide)) (fun q => h _ _ _ (by decide))
  exact ⟨zfr_w h (by decide), by rw [e.1, List.append_nil], e.2, fun j _ => h _ _ _ (by decide), fun j _ => h _ _ _ (by decide)⟩
theorem zSay2_tr {m m1 m2 : zMm} {t u : List Nat} (a : zSay2 m m1 t) (b : zSay2 m1 m2 u) : zSay2 m m2 (t ++ u) := by
  have es : m1 520 132 0 = m 520 132 0 := a.1 _ _ _ (by decide)
  obtain ⟨a1, a2, a3, a4, a5⟩ := a
  obtain ⟨b1, b2, b3, b4, b5⟩ := b
  rw [es] at b4 b5
  exact ⟨zfr_tr a1 b1 (fun _ q => q) (fun _ q => q), by rw [b2, a2, List.append_assoc], by rw [b3, a3, List.length_append, Nat.add_assoc], fun j hj => (b4 j hj).trans (a4 j hj), fun j hj => (b5 j hj).trans (a5 j hj)⟩
section
variable {L : Nat} {xs : Nat → Int32} {h : zH} {c : Nat → Nat}
theorem s137l (hx : zFx h) {N : Nat} {u w : Bool} {e : Nat} {P : zHd} (hN : N ≤ 9999) (M : List zMg) (V : List (Nat × Nat)) {E : zEnv} {sa ll np : Nat} (h64 : sa ≤ 64) (hz : zks c E 130 true 0 sa = some (e, w, P)) (hle : ll ≤ e) : ∀ (f n : Nat) (m : zMm), zLC m c → zVB m → (∀ k, k < 120 → m 0 145 k < N) → zenv m c = E → m 534 132 0 = sa → m 0 148 (m 520 132 0) = ll → m 525 132 0 = u.toNat → m 522 132 0 = 0 → m 523 132 0 ≤ 1 → znp m = np → 1 ≤ n → f + n = np + 1 → (∀ q, 1 ≤ q → q ≤ np → (∃ t, V[q - 1]? = some (zvn m q, t)) ∧ zfind M (zvn m q) = (zmt m q).map (zmg m)) → zRL m + 5 * f ≤ 1990 →
    ∃ m' T, zEv (zPr L xs) 6 137 34 [.val (.ref 132), .val (.int (nI n))] [] (zMH h m) = some (.inl none, zMH h m') ∧ zSay2 m m' (T ++ [10]) ∧ T.length ≤ 5 * f ∧ ∀ T0, zov P (zfn1 M V u) f n T0 = T0 ++ T := by
  intro f
  induction f with
  | zero =>
    intro n m hl hv hvw hE hsa hll hui hb hw hnp h1 hf hM hr
    have h40 : znp m ≤ 40 := hv.2.2.2.1
    obtain ⟨m1, e1, s1⟩ := s119 (L := L) (xs := xs) hx hl 10 (by omega)
    have t3 := hv.1
    exact ⟨m1, [], p137_34_5 hx hl (show znp m < n by omega) e1 t3 (by omega) (show znp m < 2147483648 by omega), zSay2_of s1, Nat.zero_le _, fun T0 => (List.append_nil _).symm⟩
  | succ f ih =>
    intro n m hl hv hvw hE hsa hll hui hb hw hnp h1 hf hM hr
    have h40 : znp m ≤ 40 := hv.2.2.2.1
    have t3 := hv.1
    have e0 := s109 (L := L) (xs := xs) hx hl hv (n := n) (by omega)
    have hov : ∀ σ, zov P (zfn1 M V u) (f + 1) n σ = zov P (zfn1 M V u) f (n + 1) (if P n then zfn1 M V u n σ else σ) := fun _ => rfl
    obtain ⟨⟨t, hV⟩, hfd⟩ := hM n h1 (by omega)
    have c1 : n ≤ m 0 144 (m 520 132 0) := by show n ≤ znp m; omega
    have pb : m 0 144 (m 520 132 0) < 2147483648 := by show znp m < _; omega
    cases hm : zmt m n with
    | none =>
      rw [hm] at e0 hfd
      have hfd : zfind M (zvn m n) = none := hfd
      obtain ⟨m', T, e', s', l', r⟩ := ih (n + 1) m hl hv hvw hE hsa hll hui hb hw hnp (by omega) (by omega) hM (by omega)
      refine ⟨m', T, (p137_34_4 hx hl c1 e0 (by decide) t3 (by omega) pb).trans e', s', by omega, fun T0 => ?_⟩
      rw [hov]
      have : (if P n then zfn1 M V u n T0 else T0) = T0 := by
        split
        · unfold zfn1; rw [hV]; dsimp only; rw [hfd]
        · rfl
      rw [this]; exact r T0
    | some j =>
      rw [hm] at e0 hfd
      have hfd : zfind M (zvn m n) = some (zmg m j) := hfd
      have lj := zmt_lt hv hm
      have nn : ¬ nI j < 0 := zi_nneg (by omega)
      have S := s115 (L := L) (xs := xs) (h := h) (n := n) hx hl (by omega) (fun _ => hv) h40 (by omega) hb hw (fun _ => ⟨j, hm⟩) (fun _ => by rw [hE, hsa, hz]; intro q; cases q)
      rw [hE, hsa, hz] at S
      obtain ⟨m1, b, e1, f1, g1, g2, g3, g4, g5⟩ := S
      have g5 := g5 (by omega)
      rw [hll, if_neg (by omega)] at g3
      have s1 := zSay2_S f1
      have hl1 := zLC_fr hl f1
      have l1 : zRL m1 = zRL m := s1.2.2.1
      -- what is left after the line of this place
      have rest : ∀ (m2 : zMm) (t2 : List Nat), zSay2 m m2 t2 → zfr [(0, 149), (0, 150)] m1 m2 → t2.length ≤ 5 → ∃ m' T, zEv (zPr L xs) 6 137 34 [.val (.ref 132), .val (.int (nI (n + 1)))] [] (zMH h m2) = some (.inl none, zMH h m') ∧ zSay2 m m' (t2 ++ T ++ [10]) ∧ T.length ≤ 5 * f ∧ ∀ T0, zov P (zfn1 M V u) f (n + 1) T0 = T0 ++ T := by
        intro m2 t2 s2 f2 hl2'
        have hl2 := zLC_fr hl1 f2
        have F2 := s2.1
        have ve := zenv_fr (c := c) F2
        have l2 : zRL m2 = zRL m + t2.length := s2.2.2.1
        have e2 : m2 520 132 0 = m 520 132 0 := F2 _ _ _ (by decide)
        have w2 : m2 523 132 0 = m1 523 132 0 := f2 _ _ _ (by decide)
        have b2 : m2 522 132 0 = m1 522 132 0 := f2 _ _ _ (by decide)
        have vn2 : ∀ q, zvn m2 q = zvn m q := fun q => by unfold zvn; rw [e2]; exact F2 _ _ _ (by decide)
        have mg2 : ∀ q, zmg m2 q = zmg m q := fun q => by
          unfold zmg ztx
          rw [show m2 0 137 q = m 0 137 q from F2 _ _ _ (by decide), show m2 0 138 q = m 0 138 q from F2 _ _ _ (by decide), show m2 0 139 q = m 0 139 q from F2 _ _ _ (by decide)]
          congr 2
          exact List.map_congr_left fun k _ => F2 _ _ _ (by decide)
        obtain ⟨m', T, e', s', l', r⟩ := ih (n + 1) m2 hl2 (zVB_fr hv F2) (fun k hk => by rw [show m2 0 145 k = m 0 145 k from F2 _ _ _ (by decide)]; exact hvw k hk) (ve.1.trans hE) ((F2 _ _ _ (by decide)).trans hsa) (by rw [e2]; exact (F2 _ _ _ (by decide)).trans hll) ((F2 _ _ _ (by decide)).trans hui) (b2.trans g3) (by rw [w2, g4]; split <;> omega) (by rw [ve.2.2.2]; exact hnp) (by omega) (by omega) (fun q a b => by
            rw [vn2, ve.2.1]
            obtain ⟨z1, z2⟩ := hM q a b
            refine ⟨z1, ?_⟩
            rw [z2]
            congr 1
            exact (funext mg2).symm) (by omega)
        exact ⟨m', T, e', by rw [List.append_assoc]; exact zSay2_tr s2 s', l', r⟩
      cases hb' : b with
      | false =>
        rw [hb'] at e1 g5
        obtain ⟨m', T, e', s', l', r⟩ := rest m1 [] s1 (zfr_rf _ _) (Nat.zero_le _)
        refine ⟨m', T, (p137_34_3 hx hl c1 e0 nn e1 rfl t3 (by omega) pb).trans e', s', by omega, fun T0 => ?_⟩
        rw [hov, ← g5, if_neg (by decide)]; exact r T0
      | true =>
        rw [hb'] at e1 g5
        obtain ⟨m2, e2, s2⟩ := s119 (L := L) (xs := xs) hx hl1 32 (by omega)
        have hl2 := zSay_lc hl1 s2
        have l2 : zRL m2 = zRL m1 + 1 := zSay_len s2
        have es2 : m2 520 132 0 = m 520 132 0 := (zSay_ses s2).trans (f1 _ _ _ (by decide))
        have u2 : m2 525 132 0 = u.toNat := (s2.1 _ _ _ (by decide)).trans ((f1 _ _ _ (by decide)).trans hui)
        have vv : m2 0 145 (40 * (m2 520 132 0) + n - 1) = zvn m n := by rw [es2]; exact (s2.1 _ _ _ (by decide)).trans (f1 _ _ _ (by decide))
        have vN := hvw (40 * (m 520 132 0) + n - 1) (by omega)
        have fin : ∀ (m3 : zMm) (v : Nat), v = (if u then zvn m n else n) → zSay m2 m3 (zds v) → zEv (zPr L xs) 6 137 34 [.val (.ref 132), .val (.int (nI n))] [] (zMH h m) = zEv (zPr L xs) 6 137 34 [.val (.ref 132), .val (.int (nI (n + 1)))] [] (zMH h m3) → ∃ m' T, zEv (zPr L xs) 6 137 34 [.val (.ref 132), .val (.int (nI n))] [] (zMH h m) = some (.inl none, zMH h m') ∧ zSay2 m m' (T ++ [10]) ∧ T.length ≤ 5 * (f + 1) ∧ ∀ T0, zov P (zfn1 M V u) (f + 1) n T0 = T0 ++ T := by
          intro m3 v hv' s3 ev
          have S3 := zSay_tr s2 s3
          have dl := zds_len v
          have S4 : zSay2 m m3 ([32] ++ zds v) := by
            have q := zSay2_tr s1 (zSay2_of S3)
            exact q
          obtain ⟨m', T, e', s', l', r⟩ := rest m3 ([32] ++ zds v) S4 S3.1 (by rw [List.length_append]; show 1 + _ ≤ 5; omega)
          refine ⟨m', [32] ++ zds v ++ T, ev.trans e', s', ?_, fun T0 => ?_⟩
          · rw [List.length_append, List.length_append]
            show 1 + _ + _ ≤ _
            omega
          · rw [hov, ← g5, if_pos rfl, r]
            have : zfn1 M V u n T0 = T0 ++ ([32] ++ zds v) := by
              unfold zfn1; rw [hV]; dsimp only; rw [hfd, hv']
            rw [this, List.append_assoc]
        cases hu : u with
        | true =>
          rw [hu] at u2
          obtain ⟨m3, e3, s3⟩ := s120 (L := L) (xs := xs) hx hl2 (m2 0 145 (40 * (m2 520 132 0) + n - 1)) (by rw [vv]; show m 0 145 (40 * (m 520 132 0) + n - 1) < 10000; omega) (by omega)
          have ev := p137_34_1 (L := L) (xs := xs) hx hl c1 e0 nn e1 rfl e2 (by rw [u2]; decide) e3 t3 (by omega) pb (by rw [u2]; decide) (by omega) (by omega)
          rw [← hu]
          exact fin m3 _ (by rw [vv, hu]; rfl) s3 ev
        | false =>
          rw [hu] at u2
          obtain ⟨m3, e3, s3⟩ := s120 (L := L) (xs := xs) hx hl2 n (by omega) (by omega)
          have ev := p137_34_2 (L := L) (xs := xs) hx hl c1 e0 nn e1 rfl e2 u2 e3 t3 (by omega) pb
          rw [← hu]
          exact fin m3 _ (by rw [hu]; rfl) s3 ev
end
