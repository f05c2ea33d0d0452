/-! ===== the reference copies ===== -/
theorem zfi_congr {f g : Nat → Nat} {v : Nat} : ∀ k i, (∀ q, i ≤ q → q < i + k → f q = g q) → zfi f v k i = zfi g v k i := by
  intro k
  induction k with
  | zero => intro i _; rfl
  | succ k ih =>
    intro i h
    unfold zfi
    rw [h i (Nat.le_refl _) (by omega), ih (i + 1) (fun q h1 h2 => h q (by omega) (by omega))]
theorem zfi_snoc {f : Nat → Nat} {v : Nat} : ∀ k i, f (i + k) ≠ v → zfi f v (k + 1) i = zfi f v k i := by
  intro k
  induction k with
  | zero => intro i h; unfold zfi; rw [if_neg (by rw [Nat.add_zero] at h; exact h)]; rfl
  | succ k ih =>
    intro i h
    have e := ih (i + 1) (by rw [show i + 1 + k = i + (k + 1) by omega]; exact h)
    have u : ∀ k, zfi f v (k + 1) i = if f i = v then some i else zfi f v k (i + 1) := fun _ => rfl
    rw [u, u, e]
theorem zAdd_e {m m' : zMm} {b f : Nat} {T : List Nat} (ha : zAdd m m' b f T) : m' 520 132 0 = m 520 132 0 ∧ zsb m' = zsb m ∧ znp m' = znp m ∧ ∀ n, zvn m' n = zvn m n := by
  have a1 := ha.1
  have e1 : m' 520 132 0 = m 520 132 0 := a1 _ _ _ (by decide)
  exact ⟨e1, by unfold zsb; rw [e1]; exact a1 _ _ _ (by decide), by unfold znp; rw [e1]; exact a1 _ _ _ (by decide), fun n => by unfold zvn; rw [e1]; exact a1 _ _ _ (by decide)⟩
theorem zAdd_mt {m m' : zMm} {b f n : Nat} {T : List Nat} (ha : zAdd m m' b f T) (hv : zVB m) (hb : b < 4) (h10 : m 0 136 b < 10) (hlt : zvn m n < m 0 135 (zsb m)) : zmt m' n = zmt m n := by
  obtain ⟨e1, e2, e3, e4⟩ := zAdd_e ha
  obtain ⟨a1, a2, a3, a4, a5, a6, -⟩ := ha
  have hb4 := hv.2.1
  have hc := hv.2.2.1
  unfold zmt
  rw [e2, e4]
  by_cases q : b = zsb m
  · rw [← q, a2]
    have nu : m' 0 137 (10 * b + m 0 136 b) = m 0 135 b := congrArg Prod.fst a6
    rw [zfi_snoc _ _ (by rw [nu, q]; omega)]
    exact zfi_congr _ _ fun p h1 h2 => (a5 p (by omega)).1
  · rw [(a4 _ (Ne.symm q)).1]
    exact zfi_congr _ _ fun p h1 h2 => (a5 p (by omega)).1
theorem zAdd_ok {m m' : zMm} {b f N : Nat} {T : List Nat} (ha : zAdd m m' b f T) (hok : zMOk N m) (hu : zUp m) (hb : b < 4) (h10 : m 0 136 b < 10) (hN : m 0 135 b < N) (hf : f < 16) : zMOk N m' ∧ zUp m' := by
  obtain ⟨a1, a2, a3, a4, a5, a6, hl6, ht⟩ := ha
  have nu : m' 0 137 (10 * b + m 0 136 b) = m 0 135 b := congrArg Prod.fst a6
  have fl : m' 0 138 (10 * b + m 0 136 b) = f := congrArg (fun q => q.2.1) a6
  refine ⟨⟨fun i hi => ?_, fun k hk => ?_, fun b' hb' => ?_, fun s hs => ?_, ?_⟩, fun b' hb' => ?_⟩
  · by_cases q : i = 10 * b + m 0 136 b
    · rw [q, nu, fl]; exact ⟨hN, hf, hl6, ht⟩
    · have o := hok.1 i hi
      obtain ⟨z1, z2, z3, z4⟩ := a5 i q
      rw [z1, z2, z3]
      exact ⟨o.1, o.2.1, o.2.2.1, fun k hk => by rw [z4 k hk]; exact o.2.2.2 k hk⟩
  · rw [show m' 0 145 k = m 0 145 k from a1 _ _ _ (by decide), show m' 0 146 k = m 0 146 k from a1 _ _ _ (by decide)]
    exact hok.2.1 k hk
  · have o := hok.2.2.1 b' hb'
    rw [show m' 0 133 b' = m 0 133 b' from a1 _ _ _ (by decide), show m' 0 134 b' = m 0 134 b' from a1 _ _ _ (by decide)]
    by_cases q : b' = b
    · rw [q] at o ⊢; rw [a2, a3]; exact ⟨o.1, by omega, by omega, o.2.2.2⟩
    · rw [(a4 b' q).1, (a4 b' q).2]; exact o
  · have o := hok.2.2.2.1 s hs
    rw [show m' 0 141 s = m 0 141 s from a1 _ _ _ (by decide), show m' 0 143 s = m 0 143 s from a1 _ _ _ (by decide), show m' 0 144 s = m 0 144 s from a1 _ _ _ (by decide), show m' 0 142 s = m 0 142 s from a1 _ _ _ (by decide)]
    exact o
  · rw [show m' 509 132 0 = m 509 132 0 from a1 _ _ _ (by decide)]
    exact hok.2.2.2.2
  · have o := hu b' hb'
    by_cases q : b' = b
    · rw [q] at o ⊢
      rw [a2, a3]
      have old : ∀ p, p < m 0 136 b → m' 0 137 (10 * b + p) = m 0 137 (10 * b + p) := fun p hp => (a5 _ (by omega)).1
      constructor
      · intro p q' h1 h2
        by_cases z : q' = m 0 136 b
        · rw [z, nu, old p (by omega)]; exact o.2 p (by omega)
        · rw [old p (by omega), old q' (by omega)]; exact o.1 p q' h1 (by omega)
      · intro p hp
        by_cases z : p = m 0 136 b
        · rw [z, nu]; omega
        · rw [old p (by omega)]; have := o.2 p (by omega); omega
    · rw [(a4 b' q).1, (a4 b' q).2]
      have hc := (hok.2.2.1 b' hb').2.1
      have old : ∀ p, p < m 0 136 b' → m' 0 137 (10 * b' + p) = m 0 137 (10 * b' + p) := fun p hp => (a5 _ (by omega)).1
      exact ⟨fun p q' h1 h2 => by rw [old p (by omega), old q' h2]; exact o.1 p q' h1 h2, fun p hp => by rw [old p hp]; exact o.2 p hp⟩
/-- one copy: the target's next number and messages -/
def zcp1 (M : List zMg) (V : List (Nat × Nat)) (n : Nat) (σ : Nat × List zMg) : Nat × List zMg := match V[n - 1]? with
  | none => σ
  | some (v, _) => match zfind M v with
    | none => σ
    | some g => (σ.1 + 1, σ.2 ++ [(σ.1, g.2.1, g.2.2)])
section
variable {L : Nat} {xs : Nat → Int32} {h : zH} {c : Nat → Nat}
theorem s138c (hx : zFx h) {N : Nat} {u : Bool} {l : List zRg} {f0 : Nat} (hN : N ≤ 9999) (M : List zMg) (V : List (Nat × Nat)) : ∀ (f n : Nat) (m : zMm), zLC m c → zVB m → zMOk N m → zUp m → zset c f0 (m 527 132 0) = some (l, m 528 132 0) → m 527 132 0 ≤ 64 → m 525 132 0 = u.toNat → m 526 132 0 < 4 → 1 ≤ n → f + n = znp m + 1 → (∀ q, 1 ≤ q → q ≤ znp m → zvn m q < m 0 135 (zsb m) ∧ (∃ t, V[q - 1]? = some (zvn m q, t)) ∧ zfind M (zvn m q) = (zmt m q).map (zmg m)) → m 0 136 (m 526 132 0) + zmpc m (zPl l (zenv m c) u) f n ≤ 10 → m 0 135 (m 526 132 0) + zmpc m (zPl l (zenv m c) u) f n ≤ N →
    ∃ m', zEv (zPr L xs) 5 138 12 [.val (.ref 132), .val (.int (nI 12)), .val (.int (nI (znp m))), .val (.int (nI n))] [] (zMH h m) = some (.inl none, zMH h m') ∧ zfr [(0, 137), (0, 138), (0, 135), (0, 136), (0, 139), (0, 140)] m m' ∧ zMOk N m' ∧ zUp m' ∧ (∀ b, b < 4 → b ≠ m 526 132 0 → zbm m' b = zbm m b ∧ m' 0 135 b = m 0 135 b) ∧ (m' 0 135 (m 526 132 0), zbm m' (m 526 132 0)) = zov (zPl l (zenv m c) u) (zcp1 M V) f n (m 0 135 (m 526 132 0), zbm m (m 526 132 0)) := by
  intro f
  induction f with
  | zero =>
    intro n m hl hv hok hu hz hsa hui hb h1 hf hM hc hnx
    have h40 : znp m ≤ 40 := hv.2.2.2.1
    exact ⟨m, p138_12_5 hx hl (by omega) (by omega) (by omega), zfr_rf _ _, hok, hu, fun _ _ _ => ⟨rfl, rfl⟩, rfl⟩
  | succ f ih =>
    intro n m hl hv hok hu hz hsa hui hb h1 hf hM hc hnx
    have h40 : znp m ≤ 40 := hv.2.2.2.1
    have e := s127 (L := L) (xs := xs) (n := n) hx hl hv hz hsa hui (by omega)
    have hmc : zmpc m (zPl l (zenv m c) u) (f + 1) n = (if zmn m (zPl l (zenv m c) u) n then 1 else 0) + zmpc m (zPl l (zenv m c) u) f (n + 1) := rfl
    rw [hmc] at hc hnx
    have hov : ∀ σ, zov (zPl l (zenv m c) u) (zcp1 M V) (f + 1) n σ = zov (zPl l (zenv m c) u) (zcp1 M V) f (n + 1) (if zPl l (zenv m c) u n then zcp1 M V n σ else σ) := fun _ => rfl
    rw [hov]
    obtain ⟨vlt, ⟨t, hV⟩, hfd⟩ := hM n h1 (by omega)
    cases q : zmn m (zPl l (zenv m c) u) n with
    | false =>
      rw [q] at e
      rw [q, if_neg (by decide), Nat.zero_add] at hc hnx
      have same : ∀ σ, (if zPl l (zenv m c) u n then zcp1 M V n σ else σ) = σ := by
        intro σ
        split
        · rename_i hp
          have hm : zmt m n = none := by
            unfold zmn at q
            rw [hp, Bool.and_true] at q
            cases z : zmt m n with
            | none => rfl
            | some j => rw [z] at q; cases q
          rw [hm] at hfd
          unfold zcp1
          rw [hV]
          dsimp only
          have hfd : zfind M (zvn m n) = none := hfd
          rw [hfd]
        · rfl
      rw [same]
      obtain ⟨m', e', r⟩ := ih (n + 1) m hl hv hok hu hz hsa hui hb (by omega) (by omega) hM hc hnx
      exact ⟨m', (p138_12_4 hx hl (show n ≤ znp m by omega) e rfl (by omega) (by omega)).trans e', r⟩
    | true =>
      rw [q] at e
      rw [q, if_pos rfl] at hc hnx
      have hp : zPl l (zenv m c) u n = true := by
        unfold zmn at q
        cases z : zPl l (zenv m c) u n with
        | true => rfl
        | false => rw [z, Bool.and_false] at q; cases q
      have hj : ∃ j, zmt m n = some j := by
        unfold zmn at q
        cases z : zmt m n with
        | none => rw [z] at q; cases q
        | some j => exact ⟨j, rfl⟩
      obtain ⟨j, hj⟩ := hj
      have lj := zmt_lt hv hj
      rw [hp, if_pos rfl]
      rw [hj] at hfd
      have hfd : zfind M (zvn m n) = some (zmg m j) := hfd
      obtain ⟨m1, e1, ad⟩ := s135 (L := L) (xs := xs) hx hl hv hok ⟨h1, by omega⟩ hj hb (by omega)
      have ae := zAdd_e ad
      have ab := zAdd_bm hok hb (by omega) ad
      obtain ⟨ok1, up1⟩ := zAdd_ok ad hok hu hb (by omega) (by omega) (hok.1 j lj.1).2.1
      have F1 := ad.1
      have hl1 := zLC_fr hl F1
      have hv1 := zVB_ok ok1 hN (by rw [ae.1]; exact hv.1) (by rw [ae.2.1]; exact hv.2.1)
      have eb : m1 526 132 0 = m 526 132 0 := F1 _ _ _ (by decide)
      have es : m1 527 132 0 = m 527 132 0 := F1 _ _ _ (by decide)
      have ee : m1 528 132 0 = m 528 132 0 := F1 _ _ _ (by decide)
      have eu : m1 525 132 0 = m 525 132 0 := F1 _ _ _ (by decide)
      have ep : zPl l (zenv m1 c) u = zPl l (zenv m c) u := zPl_fr ae.2.2.1 ae.2.2.2
      have emt : ∀ q, 1 ≤ q → q ≤ znp m → zmt m1 q = zmt m q := fun q a b => zAdd_mt ad hv hb (by omega) (hM q a b).1
      have emc : ∀ f n, 1 ≤ n → f + n = znp m + 1 → zmpc m1 (zPl l (zenv m c) u) f n = zmpc m (zPl l (zenv m c) u) f n := by
        intro f
        induction f with
        | zero => intro n _ _; rfl
        | succ f ih => intro n a b; unfold zmpc; rw [ih (n + 1) (by omega) (by omega)]; unfold zmn; rw [emt n a (by omega)]
      have nx1 := ad.2.2.1
      have nxb : ∀ b', b' ≠ m 526 132 0 → m1 0 135 b' = m 0 135 b' := fun b' hb' => (ad.2.2.2.1 b' hb').2
      have nge : ∀ b', m 0 135 b' ≤ m1 0 135 b' := fun b' => by
        by_cases z : b' = m 526 132 0
        · rw [z, nx1]; omega
        · rw [nxb b' z]; exact Nat.le_refl _
      obtain ⟨m', e', k1, k2, k3, k4, k5⟩ := ih (n + 1) m1 hl1 hv1 ok1 up1 (by rw [es, ee]; exact hz) (by omega) (eu.trans hui) (by omega) (by omega) (by rw [ae.2.2.1]; omega) (fun q a b => by
          rw [ae.2.2.1] at b
          obtain ⟨z1, z2, z3⟩ := hM q a b
          rw [ae.2.2.2, ae.2.1, emt q a b]
          refine ⟨Nat.lt_of_lt_of_le z1 (nge _), z2, ?_⟩
          rw [z3]
          cases z : zmt m q with
          | none => rfl
          | some j' =>
            have lj' := zmt_lt hv z
            have : j' ≠ 10 * (m 526 132 0) + m 0 136 (m 526 132 0) := by
              intro w
              by_cases y : zsb m = m 526 132 0
              · rw [y] at lj'; omega
              · have := hv.2.1; have := hv.2.2.1; omega
            show some (zmg m j') = some (zmg m1 j')
            rw [zsj_mg (ad.2.2.2.2.1 j' this) (hok.1 j' lj'.1).2.2.1]) (by rw [ep, emc f (n + 1) (by omega) (by omega), eb, ad.2.1]; omega) (by rw [ep, emc f (n + 1) (by omega) (by omega), eb, nx1]; omega)
      rw [ae.2.2.1] at e'
      rw [eb] at k4 k5
      rw [ep] at k5
      refine ⟨m', (p138_12_3 hx hl (show n ≤ znp m by omega) e rfl (by decide) (by decide) e1 (by omega) (by omega)).trans e', zfr_tr F1 k1 (fun _ q => q) (fun _ q => q), k2, k3, fun b' h1 h2 => ⟨((k4 b' h1 h2).1).trans (ab.2 b' h1 h2), ((k4 b' h1 h2).2).trans (nxb b' h2)⟩, ?_⟩
      rw [k5, nx1, ab.1]
      congr 1
      unfold zcp1
      rw [hV]
      dsimp only
      rw [hfd]
      rfl
end
