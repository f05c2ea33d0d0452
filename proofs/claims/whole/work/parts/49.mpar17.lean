/-! ===== the reference goes over the places of a set ===== -/
/-- all but the selected mailbox, the own view and the own reply is as it was -/
def zKp (m m' : zMm) : Prop := zfr [(0, 138), (0, 146), (0, 149), (0, 150)] m m' ∧ (∀ b, b < 4 → b ≠ zsb m → zbm m' b = zbm m b) ∧ (∀ s, s < 3 → s ≠ m 520 132 0 → zvw m' s = zvw m s) ∧ (∀ q, q ≠ m 520 132 0 → m' 0 150 q = m 0 150 q) ∧ ∀ q, q / 2048 ≠ m 520 132 0 → m' 0 149 q = m 0 149 q
theorem zKp_rf (m : zMm) : zKp m m := ⟨zfr_rf _ _, fun _ _ _ => rfl, fun _ _ _ => rfl, fun _ _ => rfl, fun _ _ => rfl⟩
theorem zKp_e {m m' : zMm} (h : zKp m m') : m' 520 132 0 = m 520 132 0 ∧ zsb m' = zsb m ∧ znp m' = znp m ∧ (∀ n, zvn m' n = zvn m n) ∧ ∀ n, zmt m' n = zmt m n := by
  have e1 : m' 520 132 0 = m 520 132 0 := h.1 _ _ _ (by decide)
  have e2 : zsb m' = zsb m := by unfold zsb; rw [e1]; exact h.1 _ _ _ (by decide)
  have e3 : ∀ n, zvn m' n = zvn m n := fun n => by unfold zvn; rw [e1]; exact h.1 _ _ _ (by decide)
  refine ⟨e1, e2, by unfold znp; rw [e1]; exact h.1 _ _ _ (by decide), e3, fun n => ?_⟩
  unfold zmt
  rw [e2, e3, show m' 0 136 (zsb m) = m 0 136 (zsb m) from h.1 _ _ _ (by decide)]
  congr 1
  funext i
  exact h.1 _ _ _ (by decide)
theorem zKp_tr {m m1 m2 : zMm} (a : zKp m m1) (b : zKp m1 m2) : zKp m m2 := by
  have e := zKp_e a
  obtain ⟨b1, b2, b3, b4, b5⟩ := b
  rw [e.2.1] at b2
  rw [e.1] at b3 b4 b5
  exact ⟨zfr_tr a.1 b1 (fun _ q => q) (fun _ q => q), fun b h1 h2 => (b2 b h1 h2).trans (a.2.1 b h1 h2), fun s h1 h2 => (b3 s h1 h2).trans (a.2.2.1 s h1 h2), fun q h => (b4 q h).trans (a.2.2.2.1 q h), fun q h => (b5 q h).trans (a.2.2.2.2 q h)⟩
theorem zVB_ok {m : zMm} {N : Nat} (h : zMOk N m) (hN : N ≤ 9999) (hs : m 520 132 0 < 3) (hb : zsb m < 4) : zVB m := ⟨hs, hb, (h.2.2.1 _ hb).2.1, (h.2.2.2.1 _ hs).2.2.1, fun i hi => ⟨by have := (h.1 i hi).1; omega, (h.1 i hi).2⟩, fun k hk => by have := (h.2.1 k hk).1; omega⟩
theorem zPl_fr {m m' : zMm} {c : Nat → Nat} {l : List zRg} {u : Bool} (e2 : znp m' = znp m) (e3 : ∀ n, zvn m' n = zvn m n) : zPl l (zenv m' c) u = zPl l (zenv m c) u := by
  have a1 : (zenv m' c).1 = (zenv m c).1 := e2
  have a2 : (zenv m' c).2.1 = (zenv m c).2.1 := by
    show (if znp m' = 0 then 0 else zvn m' (znp m')) = if znp m = 0 then 0 else zvn m (znp m)
    rw [e2, e3]
  have a3 : (zenv m' c).2.2.1 = (zenv m c).2.2.1 := funext e3
  unfold zPl
  rw [a1, a2, a3]
/-- one place: what becomes of messages, view and reply -/
theorem zstep {m m' : zMm} {j f g n N : Nat} {t : List Nat} (h : zTell m m' j f (40 * (m 520 132 0) + n - 1) g t) (hv : zVB m) (hok : zMOk N m) (hu : zUp m) (hj : zmt m n = some j) (hn : 1 ≤ n ∧ n ≤ znp m) (hf : f < 16) (hg : g < 16) : zsgm m' = (zsetf (zbm m (zsb m)) (zvn m n) f, (zvw m (m 520 132 0)).set (n - 1) (zvn m n, g), zrt m ++ t) ∧ zKp m m' ∧ zMOk N m' ∧ zUp m' := by
  have lj := zmt_lt hv hj
  have h10 : ∀ b, b < 4 → m 0 136 b ≤ 10 := fun b hb => (hok.2.2.1 b hb).2.1
  have h40 : ∀ s, s < 3 → m 0 144 s ≤ 40 := fun s hs => (hok.2.2.2.1 s hs).2.2.1
  have B := zTell_bm (b := zsb m) (p := j - 10 * zsb m) h hu hv.2.1 (by omega) (by omega) h10
  have V := zTell_vw h hn h40 hv.1
  have e1 : m' 520 132 0 = m 520 132 0 := h.1 _ _ _ (by decide)
  have e2 : zsb m' = zsb m := by unfold zsb; rw [e1]; exact h.1 _ _ _ (by decide)
  refine ⟨?_, ⟨h.1, B.2, V.2, h.2.2.2.2.2.1, h.2.2.2.2.2.2⟩, ?_, ?_⟩
  · unfold zsgm
    rw [e2, e1, B.1, V.1, h.2.2.2.1, lj.2.2.2]
    rfl
  · obtain ⟨a1, a2, a3, -⟩ := h
    refine ⟨fun i hi => ?_, fun k hk => ?_, fun b hb => ?_, fun s hs => ?_, ?_⟩
    · have o := hok.1 i hi
      refine ⟨by rw [show m' 0 137 i = m 0 137 i from a1 _ _ _ (by decide)]; exact o.1, ?_, by rw [show m' 0 139 i = m 0 139 i from a1 _ _ _ (by decide)]; exact o.2.2.1, fun k hk => by rw [show m' 0 140 (6 * i + k) = m 0 140 (6 * i + k) from a1 _ _ _ (by decide)]; exact o.2.2.2 k hk⟩
      rw [a2]; split
      · exact hf
      · exact o.2.1
    · have o := hok.2.1 k hk
      refine ⟨by rw [show m' 0 145 k = m 0 145 k from a1 _ _ _ (by decide)]; exact o.1, ?_⟩
      rw [a3]; split
      · exact hg
      · exact o.2
    · have o := hok.2.2.1 b hb
      rw [show m' 0 133 b = m 0 133 b from a1 _ _ _ (by decide), show m' 0 136 b = m 0 136 b from a1 _ _ _ (by decide), show m' 0 135 b = m 0 135 b from a1 _ _ _ (by decide), show m' 0 134 b = m 0 134 b from a1 _ _ _ (by decide)]
      exact o
    · have o := hok.2.2.2.1 s hs
      rw [show m' 0 141 s = m 0 141 s from a1 _ _ _ (by decide), show m' 0 143 s = m 0 143 s from a1 _ _ _ (by decide), show m' 0 144 s = m 0 144 s from a1 _ _ _ (by decide), show m' 0 142 s = m 0 142 s from a1 _ _ _ (by decide)]
      exact o
    · rw [show m' 509 132 0 = m 509 132 0 from a1 _ _ _ (by decide)]
      exact hok.2.2.2.2
  · have a1 := h.1
    intro b hb
    have o := hu b hb
    have nn : ∀ i, m' 0 137 i = m 0 137 i := fun i => a1 _ _ _ (by decide)
    rw [show m' 0 136 b = m 0 136 b from a1 _ _ _ (by decide), show m' 0 135 b = m 0 135 b from a1 _ _ _ (by decide)]
    exact ⟨fun p q h1 h2 => by rw [nn, nn]; exact o.1 p q h1 h2, fun p h1 => by rw [nn]; exact o.2 p h1⟩
theorem zft_len {n f : Nat} : (zft n f).length ≤ 20 := by
  have := zds_len n
  have := zfl_len f
  unfold zft
  simp only [List.length_append, List.length_cons, List.length_nil]
  omega
theorem zfu_len {n v : Nat} : (zfu n v).length ≤ 20 := by
  have := zds_len n
  have := zds_len v
  unfold zfu
  simp only [List.length_append, List.length_cons, List.length_nil]
  omega
theorem zfx_len {n : Nat} {T : List Nat} (h : T.length ≤ 6) : (zfx n T).length ≤ 20 := by
  have := zds_len n
  unfold zfx
  simp only [List.length_append, List.length_cons, List.length_nil]
  omega
section
variable {L : Nat} {xs : Nat → Int32} {h : zH} {c : Nat → Nat}
theorem s138s (hx : zFx h) {k sg it w N : Nat} {u : Bool} {l : List zRg} {f0 : Nat} (hk : k = 10 ∨ k = 11) (hN : N ≤ 9999) (hwr : k = 11 → zL h 533 132 0 = nL w ∧ w < 18446744073709551616 ∧ zitem w = some it) {m0 : zMm} : ∀ (f n : Nat) (m : zMm), zLC m c → zVB m → zMOk N m → zUp m → zset c f0 (m 527 132 0) = some (l, m 528 132 0) → m 527 132 0 ≤ 64 → m 525 132 0 = u.toNat → (k = 10 → m 530 132 0 = (if sg = 0 then 0 else if sg = 1 then 1 else 4294967295) ∧ m 529 132 0 < 16) → 1 ≤ n → f + n = znp m + 1 → zRL m + 20 * zmpc m (zPl l (zenv m c) u) f n ≤ 1900 →
    ∃ m', zEv (zPr L xs) 5 138 12 [.val (.ref 132), .val (.int (nI k)), .val (.int (nI (znp m))), .val (.int (nI n))] [] (zMH h m) = some (.inl none, zMH h m') ∧ zKp m m' ∧ zMOk N m' ∧ zUp m' ∧ zRL m' ≤ zRL m + 20 * zmpc m (zPl l (zenv m c) u) f n ∧ zsgm m' = zov (zPl l (zenv m c) u) (zsF1 k sg (m 529 132 0) it (decide (m 0 143 (m 520 132 0) ≠ 0))) f n (zsgm m) := by
  intro f
  induction f with
  | zero =>
    intro n m hl hv hok hu hz hsa hui hsg h1 hf hr
    have h40 : znp m ≤ 40 := hv.2.2.2.1
    exact ⟨m, p138_12_5 hx hl (by omega) (by omega) (by omega), zKp_rf m, hok, hu, by omega, rfl⟩
  | succ f ih =>
    intro n m hl hv hok hu hz hsa hui hsg h1 hf hr
    have h40 : znp m ≤ 40 := hv.2.2.2.1
    have e := s127 (L := L) (xs := xs) (n := n) hx hl hv hz hsa hui (by omega)
    have hmc : zmpc m (zPl l (zenv m c) u) (f + 1) n = (if zmn m (zPl l (zenv m c) u) n then 1 else 0) + zmpc m (zPl l (zenv m c) u) f (n + 1) := rfl
    rw [hmc] at hr ⊢
    have hov : zov (zPl l (zenv m c) u) (zsF1 k sg (m 529 132 0) it (decide (m 0 143 (m 520 132 0) ≠ 0))) (f + 1) n (zsgm m) = zov (zPl l (zenv m c) u) (zsF1 k sg (m 529 132 0) it (decide (m 0 143 (m 520 132 0) ≠ 0))) f (n + 1) (if zPl l (zenv m c) u n then zsF1 k sg (m 529 132 0) it (decide (m 0 143 (m 520 132 0) ≠ 0)) n (zsgm m) else zsgm m) := rfl
    rw [hov]
    have at1 := zvw_at (m := m) (s := m 520 132 0) (n := n) ⟨h1, by show n ≤ znp m; omega⟩
    have at2 := zfind_mt m n
    cases q : zmn m (zPl l (zenv m c) u) n with
    | false =>
      rw [q] at e
      rw [q, if_neg (by decide), Nat.zero_add] at hr
      rw [if_neg (by decide), Nat.zero_add]
      have same : (if zPl l (zenv m c) u n then zsF1 k sg (m 529 132 0) it (decide (m 0 143 (m 520 132 0) ≠ 0)) n (zsgm m) else zsgm m) = zsgm m := by
        split
        · rename_i hp
          have hm : zmt m n = none := by
            unfold zmn at q
            rw [hp, Bool.and_true] at q
            cases z : zmt m n with
            | none => rfl
            | some j => rw [z] at q; cases q
          rw [hm] at at2
          unfold zsF1 zsgm
          dsimp only
          rw [at1]
          dsimp only
          have at2 : zfind (zbm m (zsb m)) (m 0 145 (40 * (m 520 132 0) + n - 1)) = none := at2
          rw [at2]
        · rfl
      rw [same]
      obtain ⟨m', e', r⟩ := ih (n + 1) m hl hv hok hu hz hsa hui hsg (by omega) (by omega) hr
      exact ⟨m', (p138_12_4 hx hl (show n ≤ znp m by omega) e rfl (by omega) (by omega)).trans e', r⟩
    | true =>
      rw [q] at e
      rw [q, if_pos rfl] at hr
      rw [if_pos rfl]
      have hp : zPl l (zenv m c) u n = true := by
        unfold zmn at q
        cases z : zPl l (zenv m c) u n with
        | true => rfl
        | false => rw [z, Bool.and_false] at q; cases q
      have hj : ∃ j, zmt m n = some j := by
        unfold zmn at q
        cases z : zmt m n with
        | none => rw [z] at q; cases q
        | some j => exact ⟨j, rfl⟩
      obtain ⟨j, hj⟩ := hj
      have lj := zmt_lt hv hj
      have oj := hok.1 j lj.1
      rw [hp, if_pos rfl]
      rw [hj] at at2
      have at2 : zfind (zbm m (zsb m)) (m 0 145 (40 * (m 520 132 0) + n - 1)) = some (zmg m j) := at2
      have t3 := hv.1
      have otold := (hok.2.1 (40 * (m 520 132 0) + n - 1) (by omega)).2
      -- one step, then the rest
      have go : ∀ (m1 : zMm) (f1 g1 : Nat) (t : List Nat), zEv (zPr L xs) 5 138 12 [.val (.ref 132), .val (.int (nI k)), .val (.int (nI (znp m))), .val (.int (nI n))] [] (zMH h m) = zEv (zPr L xs) 5 138 12 [.val (.ref 132), .val (.int (nI k)), .val (.int (nI (znp m))), .val (.int (nI (n + 1)))] [] (zMH h m1) → zTell m m1 j f1 (40 * (m 520 132 0) + n - 1) g1 t → f1 < 16 → g1 < 16 → t.length ≤ 20 → zsF1 k sg (m 529 132 0) it (decide (m 0 143 (m 520 132 0) ≠ 0)) n (zsgm m) = (zsetf (zbm m (zsb m)) (zvn m n) f1, (zvw m (m 520 132 0)).set (n - 1) (zvn m n, g1), zrt m ++ t) → ∃ m', zEv (zPr L xs) 5 138 12 [.val (.ref 132), .val (.int (nI k)), .val (.int (nI (znp m))), .val (.int (nI n))] [] (zMH h m) = some (.inl none, zMH h m') ∧ zKp m m' ∧ zMOk N m' ∧ zUp m' ∧ zRL m' ≤ zRL m + 20 * (1 + zmpc m (zPl l (zenv m c) u) f (n + 1)) ∧ zsgm m' = zov (zPl l (zenv m c) u) (zsF1 k sg (m 529 132 0) it (decide (m 0 143 (m 520 132 0) ≠ 0))) f (n + 1) (zsF1 k sg (m 529 132 0) it (decide (m 0 143 (m 520 132 0) ≠ 0)) n (zsgm m)) := by
        intro m1 f1 g1 t he ht hf1 hg1 htl hs1
        obtain ⟨r1, r2, r3, r4⟩ := zstep ht hv hok hu hj ⟨h1, by omega⟩ hf1 hg1
        have ek := zKp_e r2
        have hl1 := zLC_fr hl r2.1
        have hv1 := zVB_ok r3 hN (by rw [ek.1]; exact t3) (by rw [ek.2.1]; exact hv.2.1)
        have ep : zPl l (zenv m1 c) u = zPl l (zenv m c) u := zPl_fr ek.2.2.1 ek.2.2.2.1
        have es : m1 527 132 0 = m 527 132 0 := r2.1 _ _ _ (by decide)
        have ee : m1 528 132 0 = m 528 132 0 := r2.1 _ _ _ (by decide)
        have eu : m1 525 132 0 = m 525 132 0 := r2.1 _ _ _ (by decide)
        have eg : m1 530 132 0 = m 530 132 0 := r2.1 _ _ _ (by decide)
        have em : m1 529 132 0 = m 529 132 0 := r2.1 _ _ _ (by decide)
        have ew : m1 0 143 (m1 520 132 0) = m 0 143 (m 520 132 0) := by rw [ek.1]; exact r2.1 _ _ _ (by decide)
        have emc : ∀ f n, zmpc m1 (zPl l (zenv m c) u) f n = zmpc m (zPl l (zenv m c) u) f n := by
          intro f
          induction f with
          | zero => intro n; rfl
          | succ f ih => intro n; unfold zmpc; rw [ih]; unfold zmn; rw [ek.2.2.2.2]
        have lr : zRL m1 = zRL m + t.length := ht.2.2.2.2.1
        obtain ⟨m', e', k1, k2, k3, k4, k5⟩ := ih (n + 1) m1 hl1 hv1 r3 r4 (by rw [es, ee]; exact hz) (by omega) (eu.trans hui) (by rw [eg, em]; exact hsg) (by omega) (by rw [ek.2.2.1]; omega) (by rw [ep, emc]; omega)
        rw [ek.2.2.1] at e'
        rw [ep, emc] at k4
        rw [ep, em, ew, r1] at k5
        refine ⟨m', he.trans e', zKp_tr r2 k1, k2, k3, by omega, ?_⟩
        rw [hs1, k5]
      have hs0 : zsF1 k sg (m 529 132 0) it (decide (m 0 143 (m 520 132 0) ≠ 0)) n (zsgm m) = (if k = 10 then (zsetf (zbm m (zsb m)) (zvn m n) (zsf sg (m 0 138 j) (m 529 132 0)), (zvw m (m 520 132 0)).set (n - 1) (zvn m n, zsf sg (m 0 138 j) (m 529 132 0)), zrt m ++ zft n (zsf sg (m 0 138 j) (m 529 132 0)))
          else (zsetf (zbm m (zsb m)) (zvn m n) (if it = 2 ∧ decide (m 0 143 (m 520 132 0) ≠ 0) = true then m 0 138 j ||| 1 else m 0 138 j), (zvw m (m 520 132 0)).set (n - 1) (zvn m n, if it = 0 then m 0 138 j else m 0 146 (40 * (m 520 132 0) + n - 1)), zrt m ++ (if it = 0 then zft n (m 0 138 j) else if it = 1 then zfu n (zvn m n) else zfx n (ztx m j)))) := by
        unfold zsF1 zsgm
        dsimp only
        rw [at1]
        dsimp only
        rw [at2]
        rfl
      rcases hk with k10 | k11
      · obtain ⟨sg1, sg2⟩ := hsg k10
        obtain ⟨m1, e1, t1⟩ := s133 (L := L) (xs := xs) hx hl hv ⟨h1, by omega⟩ hj sg1 sg2 (by omega)
        have fl := zsf_lt' (sg := sg) oj.2.1 sg2
        rw [if_pos k10] at hs0
        exact go m1 _ _ _ (p138_12_1 hx hl (show n ≤ znp m by omega) e rfl k10 e1 (by omega) (by omega)) t1 fl fl zft_len hs0
      · obtain ⟨w1, w2, w3⟩ := hwr k11
        obtain ⟨m1, e1, t1⟩ := s134 (L := L) (xs := xs) hx hl hv hok hN ⟨h1, by omega⟩ hj w1 w2 w3 (by omega)
        have n10 : k ≠ 10 := by omega
        rw [if_neg n10] at hs0
        have ed : (it = 2 ∧ decide (m 0 143 (m 520 132 0) ≠ 0) = true) = (it = 2 ∧ m 0 143 (m 520 132 0) ≠ 0) := by rw [decide_eq_true_eq]
        simp only [decide_eq_true_eq] at hs0
        refine go m1 _ _ _ (p138_12_2 hx hl (show n ≤ znp m by omega) e rfl n10 k11 e1 (by omega) (by omega)) t1 ?_ ?_ ?_ ?_
        · split
          · exact Nat.or_lt_two_pow (n := 4) oj.2.1 (by decide)
          · exact oj.2.1
        · split
          · exact oj.2.1
          · exact otold
        · split
          · exact zft_len
          · split
            · exact zfu_len
            · refine zfx_len ?_
              unfold ztx
              rw [List.length_map, List.length_range]
              exact oj.2.2.1
        · rw [hs0, lj.2.2.2]
end
