/-! ===== the reference's line: what it reads and refuses, in the abstract state ===== -/
theorem zmpc_cn {m : zMm} {A : zAS} {P : zHd} (hA : zRb m A) (hs : m 520 132 0 < 3) (hb : zsb m < 4) : ∀ f n, 1 ≤ n → n + f ≤ znp m + 1 → zmpc m P f n = zcn (zaM A (zsb m)) (zaV A (m 520 132 0)) P f n
  | 0, _, _, _ => rfl
  | f + 1, n, h1, hf => by
    have ih := zmpc_cn (P := P) hA hs hb f (n + 1) (by omega) (by omega)
    have c1 : n ≤ m 0 144 (m 520 132 0) := by show n ≤ znp m; omega
    have at1 := zvw_at (m := m) (s := m 520 132 0) (n := n) ⟨h1, c1⟩
    have fd := zfind_mt m n
    rw [zRb_M hA hb] at fd
    rw [(zRb_s hA hs).2.2.1] at at1
    have e : zcn1 (zaM A (zsb m)) (zaV A (m 520 132 0)) P n = zmn m P n := by
      unfold zcn1 zmn
      rw [at1]
      dsimp only
      rw [show m 0 145 (40 * (m 520 132 0) + n - 1) = zvn m n from rfl, fd, Option.isSome_map]
    unfold zmpc zcn
    rw [e, ih]
    cases zmn m P n <;> rfl
theorem zrfm_A {m : zMm} {A : zAS} {K k : Nat} {a : zArg} (ok : zMOk 1000 m) (hA : zRb m A) (hi : zAI K A) (hs : m 520 132 0 < 3) (hk : 1 ≤ k ∧ k ≤ 13) (hb : 5 ≤ k ∧ k ≤ 9 ∨ k = 12 → m 526 132 0 = a.1 ∧ a.1 < 4) : zrfm m k a = zrf A (m 520 132 0) k a := by
  have S := zRb_s hA hs
  have sel : ∀ s, s < 3 → ∀ b, b < 4 → decide (m 0 142 s = b) = zqB (zaQ A s) b := by
    intro s h3 b h4
    rcases zsq_of ok hA h3 with ⟨q, e⟩ | ⟨q, e⟩
    · rw [e]; rfl
    · rw [e, q]
      exact decide_eq_false (by omega)
  have b4 : (5 ≤ k ∧ k ≤ 9 ∨ k = 12) → (m 0 133 (m 526 132 0) = (A.1 a.1).1 ∧ m 0 136 (m 526 132 0) = (zaM A a.1).length ∧ zisel m (m 526 132 0) = (zqB (zaQ A 0) a.1 || zqB (zaQ A 1) a.1 || zqB (zaQ A 2) a.1)) := by
    intro q
    obtain ⟨e1, e2⟩ := hb q
    have X := zRb_x hA e2
    rw [e1]
    refine ⟨X.1, X.2.2.2, ?_⟩
    unfold zisel
    rw [sel 0 (by decide) _ e2, sel 1 (by decide) _ e2, sel 2 (by decide) _ e2]
  have e4 : (decide (6 ≤ k ∧ k ≤ 9 ∨ k = 12) && decide (m 0 133 (m 526 132 0) = 0)) = (decide (6 ≤ k ∧ k ≤ 9 ∨ k = 12) && decide ((A.1 a.1).1 = 0)) := by
    by_cases q : 6 ≤ k ∧ k ≤ 9 ∨ k = 12
    · rw [(b4 (by omega)).1]
    · rw [decide_eq_false q, Bool.false_and, Bool.false_and]
  have e5 : (decide (k = 5) && decide (m 0 133 (m 526 132 0) ≠ 0)) = (decide (k = 5) && decide ((A.1 a.1).1 ≠ 0)) := by
    by_cases q : k = 5
    · rw [(b4 (by omega)).1]
    · rw [decide_eq_false q, Bool.false_and, Bool.false_and]
  have e6 : (decide (k = 6) && zisel m (m 526 132 0)) = (decide (k = 6) && (zqB (zaQ A 0) a.1 || zqB (zaQ A 1) a.1 || zqB (zaQ A 2) a.1)) := by
    by_cases q : k = 6
    · rw [(b4 (by omega)).2.2]
    · rw [decide_eq_false q, Bool.false_and, Bool.false_and]
  have e7 : (decide (k = 9) && decide (m 0 136 (m 526 132 0) = 10)) = (decide (k = 9) && decide ((zaM A a.1).length = 10)) := by
    by_cases q : k = 9
    · rw [(b4 (by omega)).2.1]
    · rw [decide_eq_false q, Bool.false_and, Bool.false_and]
  unfold zrfm zrf
  rw [e4, e5, e6, e7]
  by_cases need : k = 2 ∨ k = 3 ∨ 10 ≤ k
  · rcases zsq_of ok hA hs with ⟨q, e⟩ | ⟨q, e⟩
    · have e1 : decide (m 0 142 (m 520 132 0) = 4294967295) = (zaQ A (m 520 132 0)).isNone := by
        rw [e]; exact decide_eq_false (by omega)
      have e2 : decide (m 0 143 (m 520 132 0) = 0) = !zqW (zaQ A (m 520 132 0)) := by
        rw [e]
        show _ = !decide (m 0 143 (m 520 132 0) ≠ 0)
        by_cases z : m 0 143 (m 520 132 0) = 0
        · rw [decide_eq_true z, decide_eq_false (fun g => g z)]; rfl
        · rw [decide_eq_false z, decide_eq_true z]; rfl
      have e8 : (decide (k = 12) && decide (10 < m 0 136 (m 526 132 0) + zmp m a.2.2.2.2.2.2.2)) = (decide (k = 12) && decide (10 < (zaM A a.1).length + zaN A (m 520 132 0) a.2.2.2.2.2.2.2)) := by
        by_cases z : k = 12
        · have : zmp m a.2.2.2.2.2.2.2 = zaN A (m 520 132 0) a.2.2.2.2.2.2.2 := by
            unfold zaN zmp
            rw [e]
            dsimp only
            have vl : (zaV A (m 520 132 0)).length = znp m := by rw [← S.2.2.1]; exact zvw_len
            rw [vl]
            exact zmpc_cn hA hs q (znp m) 1 (Nat.le_refl _) (by omega)
          rw [(b4 (Or.inr z)).2.1, this]
        · rw [decide_eq_false z, Bool.false_and, Bool.false_and]
      rw [e1, e2, e8]
    · rw [decide_eq_true need, decide_eq_true q, e]
      rfl
  · have n1 : ¬ (k = 3 ∨ k = 10) := by omega
    have n2 : ¬ 10 ≤ k := by omega
    have n3 : ¬ k = 12 := by omega
    rw [decide_eq_false need, decide_eq_false n1, decide_eq_false n2, decide_eq_false n3]
    simp only [Bool.false_and]
theorem zw1_cg {t t' c : Nat → Nat} {ta : Nat} : ∀ (k f j : Nat), (∀ q, f + j ≤ q → q < f + j + k → t q = t' q) → zw1 t c f ta k j = zw1 t' c f ta k j
  | 0, _, _, _ => rfl
  | k + 1, f, j, h => by
    unfold zw1
    rw [h (f + j) (Nat.le_refl _) (by omega), zw1_cg k f (j + 1) fun q a b => h q (by omega) (by omega)]
theorem zw2_cg {t t' c : Nat → Nat} {ta tl : Nat} : ∀ (k f : Nat), (∀ q, 1 ≤ k → q < f + k + tl - 1 → t q = t' q) → 1 ≤ tl → zw2 t c ta tl k f = zw2 t' c ta tl k f
  | 0, _, _, _ => rfl
  | k + 1, f, h, h1 => by
    unfold zw2
    rw [zw1_cg tl f 0 fun q _ b => h q (by omega) (by omega), zw2_cg k (f + 1) (fun q a b => h q (by omega) (by omega)) h1]
theorem zE_of {m : zMm} {A : zAS} {c : Nat → Nat} (ok : zMOk 1000 m) (hA : zRb m A) (hs : m 520 132 0 < 3) (hn : zaQ A (m 520 132 0) = none → zaV A (m 520 132 0) = []) : zEe (zaV A (m 520 132 0)).length (zenv m c) (zaE A (m 520 132 0) c) := by
  have S := zRb_s hA hs
  have vl : (zaV A (m 520 132 0)).length = znp m := by rw [← S.2.2.1]; exact zvw_len
  have at1 : ∀ n, 1 ≤ n → n ≤ znp m → (zaV A (m 520 132 0))[n - 1]? = some (zvn m n, m 0 146 (40 * (m 520 132 0) + n - 1)) := fun n h1 h2 => by
    have := zvw_at (m := m) (s := m 520 132 0) (n := n) ⟨h1, h2⟩
    rw [S.2.2.1] at this
    exact this
  refine ⟨vl.symm, ?_, fun n h1 h2 => ?_⟩
  · show (if znp m = 0 then 0 else zvn m (znp m)) = if (zaV A (m 520 132 0)).length = 0 then 0 else ((zaV A (m 520 132 0))[(zaV A (m 520 132 0)).length - 1]?.getD (0, 0)).1
    rw [vl]
    by_cases q : znp m = 0
    · rw [if_pos q, if_pos q]
    · rw [if_neg q, if_neg q, at1 (znp m) (by omega) (Nat.le_refl _)]
      rfl
  · rw [vl] at h2
    have a := at1 n h1 h2
    have hsel : m 0 142 (m 520 132 0) < 4 := by
      rcases zsq_of ok hA hs with ⟨q, e⟩ | ⟨q, e⟩
      · exact q
      · rw [hn e] at vl
        have vl : 0 = znp m := vl
        omega
    have hq : zaQ A (m 520 132 0) = some (m 0 142 (m 520 132 0), decide (m 0 143 (m 520 132 0) ≠ 0)) := by
      rcases zsq_of ok hA hs with ⟨q, e⟩ | ⟨q, e⟩
      · exact e
      · omega
    have fd := zfind_mt m n
    rw [zRb_M hA (show zsb m < 4 from hsel)] at fd
    have hF : zaFd A (m 520 132 0) n = (zmt m n).map (zmg m) := by
      unfold zaFd
      rw [hq]
      dsimp only
      rw [a]
      exact fd
    refine ⟨?_, ?_, fun ta tl h1l => ?_⟩
    · show zvn m n = ((zaV A (m 520 132 0))[n - 1]?.getD (0, 0)).1
      rw [a]
      rfl
    · show (match zmt m n with
        | some j => m 0 138 j
        | none => 0) = match zaFd A (m 520 132 0) n with
        | none => 0
        | some g => g.2.1
      rw [hF]
      cases zmt m n <;> rfl
    · show (match zmt m n with
        | some j => zw2 (fun q => m 0 140 (6 * j + q)) c ta tl (m 0 139 j + 1 - tl) 0
        | none => false) = match zaFd A (m 520 132 0) n with
        | none => false
        | some g => zw2 (fun q => g.2.2[q]?.getD 0) c ta tl (g.2.2.length + 1 - tl) 0
      rw [hF]
      cases zmt m n with
      | none => rfl
      | some j =>
        show zw2 (fun q => m 0 140 (6 * j + q)) c ta tl (m 0 139 j + 1 - tl) 0 = zw2 (fun q => (ztx m j)[q]?.getD 0) c ta tl ((ztx m j).length + 1 - tl) 0
        have tl' : (ztx m j).length = m 0 139 j := by unfold ztx; rw [List.length_map, List.length_range]
        rw [tl']
        refine zw2_cg _ _ (fun q hk hq => ?_) h1l
        have ql : q < m 0 139 j := by omega
        unfold ztx
        rw [List.getElem?_map, List.getElem?_range ql]
        rfl
section
variable {L : Nat} {xs : Nat → Int32} {h : zH} {c : Nat → Nat}
theorem s144a (hx : zFx h) {m : zMm} {A : zAS} {K k : Nat} {u : Bool} (hl : zLC m c) (hok : zMOk 1000 m) (hA : zRb m A) (hi : zAI K A) (hR : ∀ s, s < 3 → s ≠ m 520 132 0 → m 0 150 s ≤ 1024) (hb : zsb m < 4) (hu : m 525 132 0 = u.toNat) (hk : k ≤ 13) (hr : zRL m ≤ 300) (kk : ¬ (k = 2 ∨ k = 4 ∨ k = 7 ∨ k = 8)) : ∃ m', zCl (zPr L xs) 144 [.ref 132, .int (nI k)] (zMH h m) = some (.inl none, zMH h m') ∧ zRb m' (zPtell A (m 520 132 0) k u) ∧ zMOk 1000 m' ∧ zKeep m m' ∧ zRL m' ≤ 1940 := by
  have t3 := hl.1.1
  have hv := zVB_ok hok (by decide) t3 hb
  obtain ⟨m', ev, k1, ok, r, l1⟩ := s144 (L := L) (xs := xs) (u := u) hx (N := 1000) (by decide) hl hv hok (zUp_of hA hi) hu hk hr
  obtain ⟨F, o1, o2, o3⟩ := k1
  have S := zRb_s hA t3
  have M := zRb_M hA hb
  have kp : zKeep m m' := zKeep_of F (fun s hs => o2 s hs)
  have es : m' 520 132 0 = m 520 132 0 := kp.1
  have e0 : zrt m = zaT A (m 520 132 0) := S.2.2.2.1
  have hq : zaQ A (m 520 132 0) = some (m 0 142 (m 520 132 0), decide (m 0 143 (m 520 132 0) ≠ 0)) := by
    rcases zsq_of hok hA t3 with ⟨q, e⟩ | ⟨q, e⟩
    · exact e
    · have hb : m 0 142 (m 520 132 0) < 4 := hb
      omega
  rw [M, S.2.2.1, e0] at r
  have T : zPtell A (m 520 132 0) k u = zaVT A (m 520 132 0) (ztell (zaM A (zsb m)) (!u && decide (k = 10 ∨ k = 11 ∨ k = 13)) (zaV A (m 520 132 0)) (zaT A (m 520 132 0))).1 (ztell (zaM A (zsb m)) (!u && decide (k = 10 ∨ k = 11 ∨ k = 13)) (zaV A (m 520 132 0)) (zaT A (m 520 132 0))).2 := by
    unfold zPtell
    rw [if_neg kk, hq]
    rfl
  rw [T, ← r]
  refine ⟨m', ev, zRb_S hA (fun s hs q => ?_) (fun _ => ?_) (fun b _ => zbx_fr F b) (F _ _ _ (by decide)), ok, kp, by omega⟩
  · exact zss_o (F _ _ _ (by decide)) (F _ _ _ (by decide)) (F _ _ _ (by decide)) (o1 s hs q).2 (zrp_d q (hR s hs q) o2 o3) (F _ _ _ (by decide)) (fun i => F _ _ _ (by decide))
  · have e1 : zrp m' (m 520 132 0) = zrt m' := by unfold zrt zRL zrp; rw [es]
    have e2 : zsq m' (m 520 132 0) = zsq m (m 520 132 0) := by
      unfold zsq
      rw [show m' 0 142 (m 520 132 0) = m 0 142 (m 520 132 0) from F _ _ _ (by decide), show m' 0 143 (m 520 132 0) = m 0 143 (m 520 132 0) from F _ _ _ (by decide)]
    have e3 : m' 0 141 (m 520 132 0) = m 0 141 (m 520 132 0) := F _ _ _ (by decide)
    unfold zss
    rw [e1, e2, e3, S.1, S.2.1, zln_fr kp.2.2.2.1 kp.2.2.2.2.1, S.2.2.2.2]
/-- the reply is closed and the line emptied -/
theorem zclo {m m' : zMm} {A : zAS} {t : List Nat} (hA : zRb m A) (hs : m 520 132 0 < 3) (hR : ∀ s, s < 3 → s ≠ m 520 132 0 → m 0 150 s ≤ 1024) (h : zSay m m' t) : zRb (u3 m' 0 148 (m' 520 132 0) 0) (zfin A (m 520 132 0) (zaT A (m 520 132 0) ++ t)) := by
  obtain ⟨F, r1, r2, r3, r4⟩ := h
  have S := zRb_s hA hs
  have es : m' 520 132 0 = m 520 132 0 := F _ _ _ (by decide)
  rw [es]
  obtain ⟨m2, hm2⟩ : ∃ m2, m2 = u3 m' 0 148 (m 520 132 0) 0 := ⟨_, rfl⟩
  rw [← hm2]
  have F2 : zfr [(0, 149), (0, 150), (0, 148)] m m2 := by rw [hm2]; exact zfr_u (zfr_w F (by decide)) (by decide)
  have l2 : ∀ s, m2 0 148 s = if s = m 520 132 0 then 0 else m' 0 148 s := fun s => by rw [hm2, u3_at]
  have rp : ∀ s, zrp m2 s = zrp m' s := fun s => zrp_o (by rw [hm2]; exact u3_a (by decide)) fun i _ => by rw [hm2]; exact u3_a (by decide)
  refine zRb_S hA (fun s h3 q => ?_) (fun _ => ?_) (fun b _ => zbx_fr F2 b) (F2 _ _ _ (by decide))
  · refine zss_q (F2 _ _ _ (by decide)) (F2 _ _ _ (by decide)) (F2 _ _ _ (by decide)) (zvw_e (F2 _ _ _ (by decide)) fun i _ => ⟨F2 _ _ _ (by decide), F2 _ _ _ (by decide)⟩) ?_ ?_
    · rw [rp]; exact zrp_d q (hR s h3 q) r3 r4
    · unfold zln
      rw [l2, if_neg q, show m' 0 148 s = m 0 148 s from F _ _ _ (by decide)]
      exact List.map_congr_left fun i _ => F2 _ _ _ (by decide)
  · have e1 : zrp m2 (m 520 132 0) = zaT A (m 520 132 0) ++ t := by
      rw [rp, ← S.2.2.2.1]
      have : zrp m' (m 520 132 0) = zrt m' := by unfold zrt zRL zrp; rw [es]
      rw [this, r1]
      rfl
    have e2 : zsq m2 (m 520 132 0) = zsq m (m 520 132 0) := by
      unfold zsq
      rw [show m2 0 142 (m 520 132 0) = m 0 142 (m 520 132 0) from F2 _ _ _ (by decide), show m2 0 143 (m 520 132 0) = m 0 143 (m 520 132 0) from F2 _ _ _ (by decide)]
    have e3 : m2 0 141 (m 520 132 0) = m 0 141 (m 520 132 0) := F2 _ _ _ (by decide)
    have e4 : zvw m2 (m 520 132 0) = zvw m (m 520 132 0) := zvw_e (F2 _ _ _ (by decide)) fun i _ => ⟨F2 _ _ _ (by decide), F2 _ _ _ (by decide)⟩
    have e5 : zln m2 (m 520 132 0) = [] := List.eq_nil_of_length_eq_zero (by rw [zln_len, l2, if_pos rfl])
    unfold zss
    rw [e1, e2, e3, e4, e5, S.1, S.2.1, S.2.2.1]
end
