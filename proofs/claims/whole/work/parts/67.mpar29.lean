/-! ===== the calls of the reference ===== -/
theorem zi_neg {n : Nat} (h1 : 2147483648 ≤ n) (h2 : n < 4294967296) : nI n < 0 := by
  show nI n < nI 0
  rw [Int32.lt_iff_toInt_lt, zi_toInt (a := 0) (by decide)]
  show (BitVec.ofNat 32 n).toInt < 0
  rw [BitVec.toInt_eq_toNat_cond, BitVec.toNat_ofNat, Nat.mod_eq_of_lt (show n < 2 ^ 32 from h2)]
  rw [if_neg (by omega)]
  omega
theorem zi_pos (i : Int32) (h : ¬ i < 0) : ∃ k, k < 2147483648 ∧ i = nI k ∧ i.toNatClampNeg = k := by
  obtain ⟨n, hn, e⟩ := zi_ex i
  have : n < 2147483648 := Nat.lt_of_not_le fun q => h (by rw [e]; exact zi_neg q hn)
  exact ⟨n, this, e, by rw [e]; exact zi_clamp this⟩
theorem zsn_c (p : Int32) : (zsn p = none ∧ (p < 0 ∨ (¬ p < 0 ∧ nI 3 ≤ p))) ∨ ∃ s, s < 3 ∧ p = nI s ∧ zsn p = some s := by
  obtain ⟨n, hn, e⟩ := zi_ex p
  have hs : ∀ k, k < 3 → n ≠ k → p ≠ nI k := fun k hk hne q => hne ((zi_inj32 hn (by omega)).1 (e.symm.trans q))
  by_cases c0 : n = 0
  · exact Or.inr ⟨0, by decide, by rw [e, c0], by unfold zsn; rw [if_pos (by rw [e, c0])]⟩
  by_cases c1 : n = 1
  · exact Or.inr ⟨1, by decide, by rw [e, c1], by unfold zsn; rw [if_neg (hs 0 (by decide) c0), if_pos (by rw [e, c1])]⟩
  by_cases c2 : n = 2
  · exact Or.inr ⟨2, by decide, by rw [e, c2], by unfold zsn; rw [if_neg (hs 0 (by decide) c0), if_neg (hs 1 (by decide) c1), if_pos (by rw [e, c2])]⟩
  refine Or.inl ⟨by unfold zsn; rw [if_neg (hs 0 (by decide) c0), if_neg (hs 1 (by decide) c1), if_neg (hs 2 (by decide) c2)], ?_⟩
  by_cases c3 : n < 2147483648
  · exact Or.inr ⟨by rw [e]; exact zi_nneg c3, by rw [e, zi_le (by decide) c3]; omega⟩
  · exact Or.inl (by rw [e]; exact zi_neg (by omega) hn)
theorem zbn_c (p : Int32) : (zbn p = none ∧ (p < 0 ∨ (¬ p < 0 ∧ nI 4 ≤ p))) ∨ ∃ s, s < 4 ∧ p = nI s ∧ zbn p = some s := by
  obtain ⟨n, hn, e⟩ := zi_ex p
  have hs : ∀ k, k < 4 → n ≠ k → p ≠ nI k := fun k hk hne q => hne ((zi_inj32 hn (by omega)).1 (e.symm.trans q))
  by_cases c0 : n = 0
  · exact Or.inr ⟨0, by decide, by rw [e, c0], by unfold zbn; rw [if_pos (by rw [e, c0])]⟩
  by_cases c1 : n = 1
  · exact Or.inr ⟨1, by decide, by rw [e, c1], by unfold zbn; rw [if_neg (hs 0 (by decide) c0), if_pos (by rw [e, c1])]⟩
  by_cases c2 : n = 2
  · exact Or.inr ⟨2, by decide, by rw [e, c2], by unfold zbn; rw [if_neg (hs 0 (by decide) c0), if_neg (hs 1 (by decide) c1), if_pos (by rw [e, c2])]⟩
  by_cases c4 : n = 3
  · exact Or.inr ⟨3, by decide, by rw [e, c4], by unfold zbn; rw [if_neg (hs 0 (by decide) c0), if_neg (hs 1 (by decide) c1), if_neg (hs 2 (by decide) c2), if_pos (by rw [e, c4])]⟩
  refine Or.inl ⟨by unfold zbn; rw [if_neg (hs 0 (by decide) c0), if_neg (hs 1 (by decide) c1), if_neg (hs 2 (by decide) c2), if_neg (hs 3 (by decide) c4)], ?_⟩
  by_cases c3 : n < 2147483648
  · exact Or.inr ⟨by rw [e]; exact zi_nneg c3, by rw [e, zi_le (by decide) c3]; omega⟩
  · exact Or.inl (by rw [e]; exact zi_neg (by omega) hn)
theorem zbt_v (x : BitVec 32) (k : Nat) (hk : k ≤ 24) : (x.sshiftRight k) &&& 255#32 = BitVec.ofNat 32 (x.toNat / 2 ^ k % 256) := by
  apply BitVec.eq_of_getLsbD_eq
  intro j hj
  have e1 : (255#32).getLsbD j = decide (j < 8) := by
    show Nat.testBit (255 % 2 ^ 32) j = _
    exact Nat.testBit_two_pow_sub_one 8 j
  have e2 : (BitVec.ofNat 32 (x.toNat / 2 ^ k % 256)).getLsbD j = (decide (j < 8) && x.getLsbD (k + j)) := by
    rw [BitVec.getLsbD_ofNat, show 256 = 2 ^ 8 from rfl, Nat.testBit_mod_two_pow, Nat.testBit_div_two_pow, decide_eq_true hj, Bool.true_and, Nat.add_comm]
    rfl
  rw [BitVec.getLsbD_and, BitVec.getLsbD_sshiftRight, e1, e2]
  by_cases q : j < 8
  · rw [decide_eq_true q, Bool.and_true, Bool.true_and, if_pos (by omega), decide_eq_false (by omega)]
    rfl
  · rw [decide_eq_false q, Bool.and_false, Bool.false_and]
theorem zbt_a (q : Int32) {i : Nat} (hi : i < 4) : (q >>> (nI (8 * i) &&& 31)) &&& nI 255 = nI (zbt q i) := by
  have e : ∀ i, i < 4 → ((nI (8 * i) &&& 31).toBitVec.smod 32#32).toNat = 8 * i := by decide
  apply Int32.toBitVec_inj.mp
  show (q.toBitVec.sshiftRight ((nI (8 * i) &&& 31).toBitVec.smod 32#32).toNat) &&& 255#32 = BitVec.ofNat 32 (zbt q i)
  rw [e i hi]
  exact zbt_v _ _ (by omega)
theorem zbt_lt (q : Int32) (i : Nat) : zbt q i < 256 := Nat.mod_lt _ (by decide)
/-- as the reference counts: signs, whether there are more, what is thrown -/
def ztf : List Nat → Nat × Bool × Nat → Nat × Bool × Nat
  | [], σ => σ
  | b :: r, σ => ztf r (if (σ.2.1 && decide (b ≠ 0)) = true then σ.1 + 1 else σ.1, (σ.2.1 && decide (b ≠ 0)), if (σ.2.1 && decide (b ≠ 0)) = true ∧ zbad b = true then 3 else σ.2.2)
theorem ztf_f : ∀ (l : List Nat) (n t : Nat), ztf l (n, false, t) = (n, false, t)
  | [], _, _ => rfl
  | b :: r, n, t => ztf_f r n t
theorem ztf_t : ∀ (l : List Nat) (n t : Nat), (ztf l (n, true, t)).1 = n + (l.takeWhile fun b => decide (b ≠ 0)).length ∧ (ztf l (n, true, t)).2.2 = if (l.takeWhile fun b => decide (b ≠ 0)).any zbad then 3 else t
  | [], _, _ => ⟨rfl, rfl⟩
  | b :: r, n, t => by
    by_cases q : b = 0
    · rw [q]
      show (ztf r (n, false, t)).1 = _ ∧ (ztf r (n, false, t)).2.2 = _
      rw [ztf_f]
      exact ⟨rfl, rfl⟩
    · have e : (true && decide (b ≠ 0)) = true := by rw [decide_eq_true q]; rfl
      have st : ztf (b :: r) (n, true, t) = ztf r (n + 1, true, if zbad b = true then 3 else t) := by
        show ztf r (if (true && decide (b ≠ 0)) = true then n + 1 else n, (true && decide (b ≠ 0)), if (true && decide (b ≠ 0)) = true ∧ zbad b = true then 3 else t) = _
        rw [e, if_pos rfl]
        cases zbad b <;> rfl
      rw [st]
      have ih := ztf_t r (n + 1) (if zbad b = true then 3 else t)
      rw [List.takeWhile_cons, decide_eq_true q]
      rw [if_pos rfl, List.length_cons, List.any_cons]
      refine ⟨by rw [ih.1]; omega, ?_⟩
      rw [ih.2]
      cases zbad b <;> cases (List.takeWhile (fun b => decide (b ≠ 0)) r).any zbad <;> rfl
section
variable {L : Nat} {xs : Nat → Int32} {h : zH} {c : Nat → Nat}
theorem s88 (hx : zFx h) {m : zMm} (p : Int32) : zCl (zPr L xs) 88 [.int p] (zMH h m) = some (.inl (some (.int (nI (zsn p).isSome.toNat))), zMH h m) := by
  rw [en_88]
  rcases zsn_c p with ⟨e, q | ⟨q1, q2⟩⟩ | ⟨s, s3, e, q⟩
  · rw [e]; exact r88_0_3 hx q
  · rw [e]; exact r88_0_2 hx q1 q2
  · rw [q, e]
    exact r88_0_1 hx (zi_nneg (by omega)) (by rw [zi_le (by decide) (by omega)]; omega)
/-- between two calls -/
def zLw (B0 m : zMm) : Prop := ∀ g a i, a < 132 → m g a i = B0 g a i
theorem zLw_fr {l : List (Nat × Nat)} {B0 m m' : zMm} (h : zLw B0 m) (hf : zfr l m m') (h0 : ∀ q ∈ l, 132 ≤ q.2 := by decide) : zLw B0 m' := fun g a i ha => (hf _ _ _ fun q => absurd (h0 _ q) (Nat.not_le_of_lt ha)).trans (h g a i ha)
theorem zLw_kp {B0 m m' : zMm} (h : zLw B0 m) (k : zKeep m m') : zLw B0 m' := fun g a i ha => (k.2.2.2.2.2.2.2 g a i ha).trans (h g a i ha)
def zRI (B0 : zMm) (K : Nat) (A : zAS) (m : zMm) : Prop := zMOk 1000 m ∧ zRb m A ∧ zAI K A ∧ (m 520 132 0 < 3 ∧ zLw B0 m) ∧ ∀ s, s < 3 → (zaT A s).length ≤ 1024 ∧ (zaL A s).length ≤ 48 ∧ (∀ x ∈ zaL A s, x < 127) ∧ (zaC A s = false → zaQ A s = none) ∧ ∀ x ∈ zaT A s, x < 127
theorem zRI_ch {K : Nat} {A : zAS} {B0 m : zMm} (h : zRI B0 K A m) {s : Nat} (hs : s < 3) : zCh (zacl A s) := by
  have I := h.2.2.2.2 s hs
  refine ⟨fun p hp => ?_, fun p => ?_⟩
  · unfold zacl
    rw [List.getElem?_eq_none (by omega)]
    rfl
  · unfold zacl
    cases q : (zaL A s)[p]? with
    | none => exact Nat.le_of_ble_eq_true rfl
    | some x => exact I.2.2.1 x (List.mem_of_getElem? q)
theorem zRI_lk {A : zAS} {m : zMm} (h : zRb m A) (hs : m 520 132 0 < 3) (p : Nat) : zlk m p = zacl A (m 520 132 0) p := by
  have e := (zRb_s h hs).2.2.2.2
  unfold zacl zlk
  rw [← e]
  unfold zln
  rw [List.getElem?_map]
  by_cases q : p < m 0 148 (m 520 132 0)
  · rw [if_pos q, List.getElem?_range q]
    rfl
  · rw [if_neg q, List.getElem?_eq_none (by rw [List.length_range]; omega)]
    rfl
theorem zRI_lc {K : Nat} {A : zAS} {B0 m : zMm} (h : zRI B0 K A m) : zLC m (zacl A (m 520 132 0)) := by
  have hs := h.2.2.2.1.1
  refine ⟨⟨hs, ?_⟩, fun p => zRI_lk h.2.1 hs p, zRI_ch h hs⟩
  have e := (zRb_s h.2.1 hs).2.2.2.2
  have := (h.2.2.2.2 _ hs).2.1
  rw [← e, zln_len] at this
  exact this
end
