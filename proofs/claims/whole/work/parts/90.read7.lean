/-! ===== words by their letters and by their numbers ===== -/
theorem zmw_iff {c : Nat → Nat} : ∀ (T : List Nat) (p : Nat), zmw c p T = true ↔ ∀ i, i < T.length → c (p + i) = T.getD i 0
  | [], p => ⟨fun _ i hi => absurd hi (Nat.not_lt_zero i), fun _ => rfl⟩
  | t :: T, p => by
    unfold zmw
    rw [Bool.and_eq_true, decide_eq_true_eq, zmw_iff T (p + 1)]
    constructor
    · rintro ⟨h1, h2⟩ i hi
      cases i with
      | zero => exact h1
      | succ i =>
        have := h2 i (by rw [List.length_cons] at hi; omega)
        rw [show p + (i + 1) = p + 1 + i by omega, this]
        rfl
    · intro h
      refine ⟨h 0 (by rw [List.length_cons]; omega), fun i hi => ?_⟩
      have := h (i + 1) (by rw [List.length_cons]; omega)
      rw [show p + 1 + i = p + (i + 1) by omega, this]
      rfl
theorem zre_run {f : Nat → Bool} {c : Nat → Nat} (hc : zCh c) (h0 : f 0 = false) : ∀ (k p : Nat), (∀ i, i < k → f (c (p + i)) = true) → f (c (p + k)) = false → zre f c p = p + k
  | 0, p, _, h => zre_f h
  | k + 1, p, h, h2 => by
    have z0 : f (c p) = true := h 0 (by omega)
    rw [zre_t hc h0 z0, zre_run hc h0 k (p + 1) (fun i hi => by rw [show p + 1 + i = p + (i + 1) by omega]; exact h (i + 1) (by omega)) (by rw [show p + 1 + k = p + (k + 1) by omega]; exact h2)]
    omega
theorem zre_al2 {f : Nat → Bool} {c : Nat → Nat} (hc : zCh c) (h0 : f 0 = false) : ∀ (k p : Nat), zre f c p = p + k → ∀ i, i < k → f (c (p + i)) = true
  | 0, _, _, i, hi => absurd hi (Nat.not_lt_zero i)
  | k + 1, p, h, i, hi => by
    cases z : f (c p) with
    | false => rw [zre_f z] at h; omega
    | true =>
      rw [zre_t hc h0 z] at h
      cases i with
      | zero => exact z
      | succ i =>
        have := zre_al2 hc h0 k (p + 1) (by omega) i (by omega)
        rw [show p + (i + 1) = p + 1 + i by omega]
        exact this
theorem zlrg_iff {x : Nat} : zlrg x = true ↔ 65 ≤ x ∧ x ≤ 90 := by
  unfold zlrg
  simp only [Bool.and_eq_true, decide_eq_true_eq]
theorem zltr_e {x : Nat} (h : 65 ≤ x ∧ x ≤ 90) : zltr x = x - 64 := by
  unfold zltr
  split <;> omega
/-- a word's number -/
def zen (T : List Nat) : Nat := T.foldl (fun v t => v * 32 + (t - 64)) 0 * 32 ^ (7 - T.length)
def zWd (T : List Nat) : Prop := 1 ≤ T.length ∧ T.length ≤ 7 ∧ ∀ t ∈ T, 65 ≤ t ∧ t ≤ 90
theorem zwl_e {c : Nat → Nat} : ∀ (T : List Nat) (p n v : Nat), n + T.length ≤ 7 → (∀ t ∈ T, 65 ≤ t ∧ t ≤ 90) → zmw c p T = true → zwl c T.length p n v = T.foldl (fun v t => v * 32 + (t - 64)) v
  | [], _, _, _, _, _, _ => rfl
  | t :: T, p, n, v, hn, hT, hm => by
    unfold zmw at hm
    rw [Bool.and_eq_true, decide_eq_true_eq] at hm
    rw [List.length_cons] at hn
    show zwl c T.length (p + 1) (n + 1) (if n < 7 then v * 32 + zltr (c p) else v) = T.foldl _ (v * 32 + (t - 64))
    rw [if_pos (by omega), hm.1, zltr_e (hT t (List.mem_cons_self ..))]
    exact zwl_e T (p + 1) (n + 1) _ (by omega) (fun t ht => hT t (List.mem_cons_of_mem _ ht)) hm.2
theorem zwn_of {c : Nat → Nat} (hc : zCh c) {T : List Nat} {p : Nat} (hT : zWd T) (hm : zmw c p T = true) (hl : zlrg (c (p + T.length)) = false) : zwn c p = zen T ∧ zre zlrg c p = p + T.length := by
  obtain ⟨h1, h2, h3⟩ := hT
  have e : zre zlrg c p = p + T.length := zre_run hc rfl _ _ (fun i hi => by
    rw [(zmw_iff T p).1 hm i hi]
    refine zlrg_iff.2 ?_
    rw [List.getD_eq_getElem?_getD, List.getElem?_eq_getElem hi]
    exact h3 _ (List.getElem_mem hi)) hl
  refine ⟨?_, e⟩
  unfold zwn zen
  rw [e, Nat.add_sub_cancel_left, if_neg (by omega), zwl_e T p 0 0 (by omega) h3 hm]
/-- the letters are found again in the number -/
def zew : Nat → List Nat → Nat
  | _, [] => 0
  | k, t :: T => (t - 64) * 32 ^ (k - 1) + zew (k - 1) T
theorem zew_e : ∀ (T : List Nat) (v k : Nat), T.length ≤ k → T.foldl (fun v t => v * 32 + (t - 64)) v * 32 ^ (k - T.length) = v * 32 ^ k + zew k T
  | [], v, k, _ => rfl
  | t :: T, v, k, h => by
    rw [List.length_cons] at h
    obtain ⟨j, hj⟩ : ∃ j, k = j + 1 := ⟨k - 1, by omega⟩
    have ih := zew_e T (v * 32 + (t - 64)) j (by omega)
    rw [hj, List.length_cons, Nat.add_sub_add_right]
    show T.foldl _ (v * 32 + (t - 64)) * 32 ^ (j - T.length) = v * 32 ^ (j + 1) + ((t - 64) * 32 ^ j + zew j T)
    rw [ih, Nat.add_mul, Nat.mul_assoc, Nat.mul_comm 32 (32 ^ j), ← Nat.pow_succ, Nat.add_assoc]
theorem zew_lt : ∀ (T : List Nat) (k : Nat), T.length ≤ k → (∀ t ∈ T, 65 ≤ t ∧ t ≤ 90) → zew k T < 32 ^ k
  | [], k, _, _ => Nat.pow_pos (by decide)
  | t :: T, k, h, hT => by
    rw [List.length_cons] at h
    obtain ⟨j, hj⟩ : ∃ j, k = j + 1 := ⟨k - 1, by omega⟩
    have ih := zew_lt T j (by omega) (fun x hx => hT x (List.mem_cons_of_mem _ hx))
    have ht := hT t (List.mem_cons_self ..)
    rw [hj]
    show (t - 64) * 32 ^ j + zew j T < 32 ^ (j + 1)
    rw [Nat.pow_succ, Nat.mul_comm (32 ^ j) 32]
    have : (t - 64) * 32 ^ j + 32 ^ j ≤ 32 * 32 ^ j := by
      rw [show (t - 64) * 32 ^ j + 32 ^ j = (t - 64 + 1) * 32 ^ j by rw [Nat.add_mul, Nat.one_mul]]
      exact Nat.mul_le_mul_right _ (by omega)
    omega
theorem zew_inj : ∀ (T U : List Nat) (k : Nat), T.length ≤ k → U.length ≤ k → (∀ t ∈ T, 65 ≤ t ∧ t ≤ 90) → (∀ t ∈ U, 65 ≤ t ∧ t ≤ 90) → zew k T = zew k U → T = U
  | [], [], _, _, _, _, _, _ => rfl
  | [], u :: U, k, _, _, _, hU, e => by
    exfalso
    have := hU u (List.mem_cons_self ..)
    have p : 0 < 32 ^ (k - 1) := Nat.pow_pos (by decide)
    have e : 0 = (u - 64) * 32 ^ (k - 1) + zew (k - 1) U := e
    have := Nat.mul_le_mul_right (32 ^ (k - 1)) (show 1 ≤ u - 64 by omega)
    omega
  | t :: T, [], k, _, _, hT, _, e => by
    exfalso
    have := hT t (List.mem_cons_self ..)
    have p : 0 < 32 ^ (k - 1) := Nat.pow_pos (by decide)
    have e : (t - 64) * 32 ^ (k - 1) + zew (k - 1) T = 0 := e
    have := Nat.mul_le_mul_right (32 ^ (k - 1)) (show 1 ≤ t - 64 by omega)
    omega
  | t :: T, u :: U, k, h1, h2, hT, hU, e => by
    rw [List.length_cons] at h1 h2
    have e : (t - 64) * 32 ^ (k - 1) + zew (k - 1) T = (u - 64) * 32 ^ (k - 1) + zew (k - 1) U := e
    have l1 := zew_lt T (k - 1) (by omega) (fun x hx => hT x (List.mem_cons_of_mem _ hx))
    have l2 := zew_lt U (k - 1) (by omega) (fun x hx => hU x (List.mem_cons_of_mem _ hx))
    have p : 0 < 32 ^ (k - 1) := Nat.pow_pos (by decide)
    have d := congrArg (fun x => x / 32 ^ (k - 1)) e
    rw [Nat.mul_comm, Nat.mul_add_div p, Nat.mul_comm (u - 64), Nat.mul_add_div p, Nat.div_eq_of_lt l1, Nat.div_eq_of_lt l2] at d
    have ht := hT t (List.mem_cons_self ..)
    have hu := hU u (List.mem_cons_self ..)
    have tu : t = u := by omega
    rw [tu] at e ⊢
    rw [zew_inj T U (k - 1) (by omega) (by omega) (fun x hx => hT x (List.mem_cons_of_mem _ hx)) (fun x hx => hU x (List.mem_cons_of_mem _ hx)) (by omega)]
theorem zen_w {T : List Nat} (h : T.length ≤ 7) : zen T = zew 7 T := by
  have := zew_e T 0 7 h
  rw [Nat.zero_mul, Nat.zero_add] at this
  exact this
theorem zmw_self {c : Nat → Nat} : ∀ (k p : Nat), zmw c p ((List.range' p k).map c) = true
  | 0, _ => rfl
  | k + 1, p => by
    rw [List.range'_succ, List.map_cons]
    unfold zmw
    rw [zmw_self k (p + 1), decide_eq_true rfl]
    rfl
theorem zwn_to {c : Nat → Nat} (hc : zCh c) {T : List Nat} {p : Nat} (hT : zWd T) (h : zwn c p = zen T) : zmw c p T = true ∧ zre zlrg c p = p + T.length := by
  obtain ⟨h1, h2, h3⟩ := hT
  have lt : zen T < 32 ^ 7 := by rw [zen_w h2]; exact zew_lt T 7 h2 h3
  have ge := zre_ge (f := zlrg) hc rfl p
  obtain ⟨n, hn⟩ : ∃ n, zre zlrg c p = p + n := ⟨zre zlrg c p - p, by omega⟩
  have nb : 1 ≤ n ∧ n ≤ 7 := by
    unfold zwn at h
    rw [hn, Nat.add_sub_cancel_left] at h
    by_cases q : n = 0 ∨ 7 < n
    · rw [if_pos q] at h
      omega
    · omega
  have al := zre_al2 hc rfl n p hn
  have wU : zWd ((List.range' p n).map c) := by
    refine ⟨by rw [List.length_map, List.length_range']; exact nb.1, by rw [List.length_map, List.length_range']; exact nb.2, fun t ht => ?_⟩
    obtain ⟨i, hi, e⟩ := List.mem_map.1 ht
    obtain ⟨j, hj, e2⟩ := List.mem_range'.1 hi
    rw [← e, e2, Nat.one_mul]
    exact zlrg_iff.1 (al j hj)
  have lU : ((List.range' p n).map c).length = n := by rw [List.length_map, List.length_range']
  have z := zwn_of hc wU (zmw_self n p) (by rw [lU, ← hn]; exact ge.2.2)
  have e : (List.range' p n).map c = T := zew_inj _ _ 7 wU.2.1 h2 wU.2.2 h3 (by rw [← zen_w wU.2.1, ← zen_w h2, ← z.1, h])
  rw [← e]
  exact ⟨zmw_self n p, by rw [lU]; exact hn⟩
