/-! ===== the reference tells ===== -/
def ztl1 (M : List zMg) (n : Nat) (σ : List (Nat × Nat) × List Nat) : List (Nat × Nat) × List Nat := match σ.1[n - 1]? with
  | none => σ
  | some (v, t) => match zfind M v with
    | none => σ
    | some g => if g.2.1 = t then σ else (σ.1.set (n - 1) (v, g.2.1), σ.2 ++ zft n g.2.1)
def zex (n : Nat) : List Nat := [42, 32] ++ zds n ++ [32] ++ [69, 88, 73, 83, 84, 83] ++ [10]
/-- messages, whether places are kept, view, reply -/
def ztell (M : List zMg) (keeps : Bool) (V : List (Nat × Nat)) (T : List Nat) : List (Nat × Nat) × List Nat :=
  let a := if keeps then (V, []) else zgn M 1 V
  let V2 := ztk M a.1
  zov (fun _ => true) (ztl1 M) V2.length 1 (V2, T ++ a.2 ++ (if a.1.length < V2.length then zex V2.length else []))
theorem zex_len {n : Nat} : (zex n).length ≤ 20 := by
  have := zds_len n
  unfold zex
  simp only [List.length_append, List.length_cons, List.length_nil]
  omega
section
variable {L : Nat} {xs : Nat → Int32} {h : zH} {c : Nat → Nat}
theorem s144c (hx : zFx h) {N : Nat} (hN : N ≤ 9999) (M : List zMg) {w1 w2 w3 w4 : Slot} : ∀ (f n : Nat) (m : zMm) (w6 : Slot), w6 ≠ .second → zLC m c → zVB m → zMOk N m → zUp m → zbm m (zsb m) = M → f + n = znp m + 1 → 1 ≤ n → zRL m + 20 * f ≤ 1940 → ∃ m', zEv (zPr L xs) 4 144 239 [.val (.ref 132), w1, w2, w3, w4, .val (.int (nI n)), w6] [] (zMH h m) = some (.inl none, zMH h m') ∧ zKv m m' ∧ zMOk N m' ∧ (zvw m' (m 520 132 0), zrt m') = zov (fun _ => true) (ztl1 M) f n (zvw m (m 520 132 0), zrt m) ∧ zRL m' ≤ zRL m + 20 * f := by
  intro f
  induction f with
  | zero =>
    intro n m w6 hw6 hl hv hok hu hM hf h1 hr
    have h40 : znp m ≤ 40 := hv.2.2.2.1
    exact ⟨m, p144_239_2 hx hl (show znp m < n by omega) hv.1 (by omega) (show znp m < 2147483648 by omega), zKv_rf m, hok, rfl, by omega⟩
  | succ f ih =>
    intro n m w6 hw6 hl hv hok hu hM hf h1 hr
    have t3 := hv.1
    have h40 : znp m ≤ 40 := hv.2.2.2.1
    have pb : m 0 144 (m 520 132 0) < 2147483648 := by show znp m < _; omega
    have c1 : n ≤ m 0 144 (m 520 132 0) := by show n ≤ znp m; omega
    have hov : ∀ σ, zov (fun _ => true) (ztl1 M) (f + 1) n σ = zov (fun _ => true) (ztl1 M) f (n + 1) (ztl1 M n σ) := fun _ => rfl
    rw [hov]
    have at1 := zvw_at (m := m) (s := m 520 132 0) (n := n) ⟨h1, c1⟩
    have fd := zfind_mt m n
    rw [hM] at fd
    have e0 := s109 (L := L) (xs := xs) (n := n) hx hl hv (by omega)
    have skip : ztl1 M n (zvw m (m 520 132 0), zrt m) = (zvw m (m 520 132 0), zrt m) → ∀ w', w' ≠ Slot.second → zEv (zPr L xs) 4 144 239 [.val (.ref 132), w1, w2, w3, w4, .val (.int (nI n)), w6] [] (zMH h m) = zEv (zPr L xs) 4 144 306 [.val (.ref 132), w1, w2, w3, w4, .val (.int (nI n)), w'] [] (zMH h m) → ∃ m', zEv (zPr L xs) 4 144 239 [.val (.ref 132), w1, w2, w3, w4, .val (.int (nI n)), w6] [] (zMH h m) = some (.inl none, zMH h m') ∧ zKv m m' ∧ zMOk N m' ∧ (zvw m' (m 520 132 0), zrt m') = zov (fun _ => true) (ztl1 M) f (n + 1) (ztl1 M n (zvw m (m 520 132 0), zrt m)) ∧ zRL m' ≤ zRL m + 20 * (f + 1) := by
      intro hs w' hw' he
      obtain ⟨m', e', r1, r2, r3, r4⟩ := ih (n + 1) m w' hw' hl hv hok hu hM (by omega) (by omega) (by omega)
      exact ⟨m', he.trans ((p144_306_1 hx hl hw').trans e'), r1, r2, by rw [hs]; exact r3, by omega⟩
    cases hm : zmt m n with
    | none =>
      rw [hm] at e0 fd
      have fd : zfind M (m 0 145 (40 * (m 520 132 0) + n - 1)) = none := fd
      refine skip ?_ _ zsecn (p144_239_1 hx hl c1 e0 (by decide) hw6 t3 (by omega) pb)
      unfold ztl1
      dsimp only
      rw [at1]
      dsimp only
      rw [fd]
    | some j =>
      rw [hm] at e0 fd
      have lj := zmt_lt hv hm
      have oj := hok.1 j lj.1
      have ot := (hok.2.1 (40 * (m 520 132 0) + n - 1) (by omega)).2
      have fd : zfind M (m 0 145 (40 * (m 520 132 0) + n - 1)) = some (zmg m j) := fd
      have hstep : ztl1 M n (zvw m (m 520 132 0), zrt m) = if m 0 138 j = m 0 146 (40 * (m 520 132 0) + n - 1) then (zvw m (m 520 132 0), zrt m) else ((zvw m (m 520 132 0)).set (n - 1) (m 0 145 (40 * (m 520 132 0) + n - 1), m 0 138 j), zrt m ++ zft n (m 0 138 j)) := by
        unfold ztl1
        dsimp only
        rw [at1]
        dsimp only
        rw [fd]
        rfl
      by_cases e : m 0 138 j = m 0 146 (40 * (m 520 132 0) + n - 1)
      · rw [if_pos e] at hstep
        exact skip hstep _ zsecn (q144_239_2 hx hl c1 e0 e hw6 t3 (by omega) pb (by omega) lj.1 (by omega) (by omega))
      · rw [if_neg e] at hstep
        obtain ⟨m4, e4, s4⟩ := s124 (L := L) (xs := xs) hx hl n (m 0 138 j) (by omega) (by omega)
        have st := q144_239_1 (L := L) (xs := xs) (w1 := w1) (w2 := w2) (w3 := w3) (w4 := w4) hx hl c1 e0 e e4 hw6 t3 (by omega) pb (by omega) lj.1 (by omega) (by omega) (by omega) (by omega)
        have hself : u3 m 0 138 j (m 0 138 j) = m := u3_self rfl
        have tel : zTell m (u3 m4 0 146 (40 * (m 520 132 0) + n - 1) (m 0 138 j)) j (m 0 138 j) (40 * (m 520 132 0) + n - 1) (m 0 138 j) (zft n (m 0 138 j)) := zTell_of (by rw [hself]; exact s4)
        obtain ⟨-, -, r3, r4⟩ := zstep tel hv hok hu hm ⟨h1, c1⟩ oj.2.1 oj.2.1
        have h40' : ∀ s, s < 3 → m 0 144 s ≤ 40 := fun s hs => (hok.2.2.2.1 s hs).2.2.1
        have V := zTell_vw tel ⟨h1, c1⟩ h40' t3
        obtain ⟨m1, hm1⟩ : ∃ m1, m1 = u3 m4 0 146 (40 * (m 520 132 0) + n - 1) (m 0 138 j) := ⟨_, rfl⟩
        rw [← hm1] at st tel r3 r4 V
        have F1 : zfr [(0, 146), (0, 149), (0, 150)] m m1 := by rw [hm1]; exact zfr_u (zfr_w s4.1 (by decide)) (by decide)
        have F : zfr [(0, 145), (0, 146), (0, 144), (0, 149), (0, 150)] m m1 := zfr_w F1 (by decide)
        have kv : zKv m m1 := ⟨F, fun s h1 h2 => ⟨F1 _ _ _ (by decide), V.2 s h1 h2⟩, tel.2.2.2.2.2.1, tel.2.2.2.2.2.2⟩
        have es : m1 520 132 0 = m 520 132 0 := F _ _ _ (by decide)
        have sb : zsb m1 = zsb m := by unfold zsb; rw [es]; exact F _ _ _ (by decide)
        have np1 : znp m1 = znp m := by unfold znp; rw [es]; exact F1 _ _ _ (by decide)
        have lz : zRL m1 = zRL m + (zft n (m 0 138 j)).length := tel.2.2.2.2.1
        have lft := zft_len (n := n) (f := m 0 138 j)
        obtain ⟨m', e', k1, k2, k3, k4⟩ := ih (n + 1) m1 (.val (.int (nI j))) zsecn (zLC_fr hl F) (zVB_ok r3 hN (by rw [es]; exact t3) (by rw [sb]; exact hv.2.1)) r3 r4 (by rw [sb, zbm_fr F]; exact hM) (by rw [np1]; omega) (by omega) (by omega)
        rw [es, V.1, tel.2.2.2.1] at k3
        refine ⟨m', st.trans ((p144_306_1 hx (zLC_fr hl F) zsecn).trans e'), zKv_tr kv k1, k2, ?_, by omega⟩
        rw [hstep, k3]
end
