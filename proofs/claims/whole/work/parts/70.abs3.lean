/-! ===== what the abstract state keeps ===== -/
theorem zBI_w {K K' : Nat} {B : zBx} (h : zBI K B) (hk : K ≤ K') : zBI K' B := by
  obtain ⟨h1, h2, h3, h4, h5, h6⟩ := h
  exact ⟨h1, h2, h3, by omega, by omega, h6⟩
theorem zhas_m (V : List (Nat × Nat)) (v : Nat) : zhas V v = (V.map fun q => q.1).any fun x => decide (x = v) := by
  unfold zhas
  rw [List.any_map]
  rfl
theorem zhas_f {V : List (Nat × Nat)} {v : Nat} : zhas V v = false ↔ ∀ q ∈ V, q.1 ≠ v := by
  unfold zhas
  rw [List.any_eq_false]
  exact ⟨fun h q hq e => h q hq (decide_eq_true e), fun h q hq e => h q hq (of_decide_eq_true e)⟩
theorem zhas_t {V : List (Nat × Nat)} {v : Nat} : zhas V v = true ↔ ∃ q ∈ V, q.1 = v := by
  unfold zhas
  rw [List.any_eq_true]
  exact ⟨fun ⟨q, hq, e⟩ => ⟨q, hq, of_decide_eq_true e⟩, fun ⟨q, hq, e⟩ => ⟨q, hq, decide_eq_true e⟩⟩
def zfd (M : List zMg) (v : Nat) : Bool := (zfind M v).isSome
theorem zfd_m (M : List zMg) (v : Nat) : zfd M v = (M.map fun g => g.1).any fun x => decide (x = v) := by
  unfold zfd zfind
  rw [List.any_map]
  induction M with
  | nil => rfl
  | cons g M ih =>
    rw [List.find?_cons, List.any_cons]
    by_cases q : g.1 = v
    · rw [decide_eq_true q]
      show true = (decide (g.1 = v) || _)
      rw [decide_eq_true q]
      rfl
    · rw [decide_eq_false q]
      show (List.find? _ M).isSome = (decide (g.1 = v) || _)
      rw [decide_eq_false q, ih]
      rfl
theorem zfd_t {M : List zMg} {v : Nat} : zfd M v = true ↔ ∃ g ∈ M, g.1 = v := by
  rw [zfd_m, List.any_map, List.any_eq_true]
  exact ⟨fun ⟨q, hq, e⟩ => ⟨q, hq, of_decide_eq_true e⟩, fun ⟨q, hq, e⟩ => ⟨q, hq, decide_eq_true e⟩⟩
theorem zfd_s {M : List zMg} {v : Nat} {g : zMg} (h : zfind M v = some g) : g ∈ M ∧ g.1 = v ∧ zfd M v = true := by
  refine ⟨List.mem_of_find?_eq_some h, ?_, by unfold zfd; rw [h]; rfl⟩
  have := List.find?_some h
  exact of_decide_eq_true this
theorem zfd_e {M : List zMg} {v : Nat} (h : zfind M v = none) : zfd M v = false := by unfold zfd; rw [h]; rfl
/-- the places of a view that are not gone are at most as many as the messages -/
theorem zfd_le : ∀ (V : List (Nat × Nat)) (M : List zMg), (V.map fun v => v.1).Pairwise (· < ·) → (V.filter fun v => zfd M v.1).length ≤ M.length
  | [], M, _ => Nat.zero_le _
  | v :: V, M, h => by
    rw [List.map_cons, List.pairwise_cons] at h
    rw [List.filter_cons]
    by_cases q : zfd M v.1 = true
    · rw [if_pos q, List.length_cons]
      obtain ⟨g, hg, e⟩ := zfd_t.1 q
      have ih := zfd_le V (M.filter fun g => decide (v.1 < g.1)) h.2
      have lt : (M.filter fun g => decide (v.1 < g.1)).length < M.length := List.length_filter_lt_length_iff_exists.2 ⟨g, hg, by rw [decide_eq_true_eq]; omega⟩
      have eq : (V.filter fun v => zfd M v.1) = V.filter fun v' => zfd (M.filter fun g => decide (v.1 < g.1)) v'.1 := by
        refine List.filter_congr fun v' hv' => ?_
        have := h.1 v'.1 (List.mem_map.2 ⟨v', hv', rfl⟩)
        rw [Bool.eq_iff_iff, zfd_t, zfd_t]
        constructor
        · rintro ⟨g', h1, h2⟩
          exact ⟨g', List.mem_filter.2 ⟨h1, by rw [decide_eq_true_eq, h2]; exact this⟩, h2⟩
        · rintro ⟨g', h1, h2⟩
          exact ⟨g', (List.mem_filter.1 h1).1, h2⟩
      rw [eq]
      omega
    · rw [if_neg q]
      exact zfd_le V M h.2
theorem zcn1_e (M : List zMg) (V : List (Nat × Nat)) (P : zHd) (n : Nat) : zcn1 M V P n = ((match V[n - 1]? with
    | none => false
    | some v => zfd M v.1) && P n) := rfl
theorem zcn_le {M : List zMg} {V : List (Nat × Nat)} {P : zHd} : ∀ f n, 1 ≤ n → zcn M V P f n ≤ ((V.drop (n - 1)).filter fun v => zfd M v.1).length
  | 0, _, _ => Nat.zero_le _
  | f + 1, n, hn => by
    have ih := zcn_le (M := M) (V := V) (P := P) f (n + 1) (by omega)
    unfold zcn
    by_cases q : n - 1 < V.length
    · rw [List.drop_eq_getElem_cons q, List.filter_cons, show n - 1 + 1 = n + 1 - 1 by omega]
      rw [zcn1_e, List.getElem?_eq_getElem q]
      dsimp only
      by_cases z : zfd M V[n - 1].1 = true
      · rw [if_pos z, List.length_cons]
        have := Bool.toNat_le (zfd M V[n - 1].1 && P n)
        omega
      · rw [if_neg z]
        have : zfd M V[n - 1].1 = false := by cases w : zfd M V[n - 1].1 with
          | true => exact absurd w z
          | false => rfl
        rw [this, Bool.false_and]
        show 0 + _ ≤ _
        omega
    · rw [zcn1_e, List.getElem?_eq_none (by omega)]
      rw [List.drop_of_length_le (by omega)] at ih ⊢
      rw [Bool.false_and]
      show 0 + _ ≤ _
      rw [Nat.zero_add]
      exact ih
theorem zcn_10 {M : List zMg} {V : List (Nat × Nat)} {P : zHd} (hV : (V.map fun v => v.1).Pairwise (· < ·)) (f : Nat) : zcn M V P f 1 ≤ M.length := Nat.le_trans (zcn_le f 1 (Nat.le_refl _)) (zfd_le V M hV)
theorem zcn1_m {M M' : List zMg} {V V' : List (Nat × Nat)} {P : zHd} {n : Nat} (hM : (M'.map fun g => g.1) = M.map fun g => g.1) (hV : (V'.map fun v => v.1) = V.map fun v => v.1) : zcn1 M' V' P n = zcn1 M V P n := by
  have e : ∀ v, zfd M' v = zfd M v := fun v => by rw [zfd_m, zfd_m, hM]
  have hv : (V'[n - 1]?).map (fun v => v.1) = (V[n - 1]?).map fun v => v.1 := by rw [← List.getElem?_map, ← List.getElem?_map, hV]
  rw [zcn1_e, zcn1_e]
  cases h1 : V'[n - 1]? with
  | none =>
    rw [h1] at hv
    cases h2 : V[n - 1]? with
    | none => rfl
    | some v => rw [h2] at hv; cases hv
  | some v' =>
    rw [h1] at hv
    cases h2 : V[n - 1]? with
    | none => rw [h2] at hv; cases hv
    | some v =>
      rw [h2] at hv
      have hv : v'.1 = v.1 := Option.some.inj hv
      dsimp only
      rw [e, hv]
theorem zcn_m {M M' : List zMg} {V V' : List (Nat × Nat)} {P : zHd} (hM : (M'.map fun g => g.1) = M.map fun g => g.1) (hV : (V'.map fun v => v.1) = V.map fun v => v.1) : ∀ f n, zcn M' V' P f n = zcn M V P f n
  | 0, _ => rfl
  | f + 1, n => by
    unfold zcn
    rw [zcn1_m hM hV, zcn_m hM hV f (n + 1)]
/-! texts that are said -/
def zTk (b : Nat) (T : List Nat) : Prop := T.length ≤ b ∧ ∀ x ∈ T, x < 127
theorem zTk_nil : zTk 0 [] := ⟨Nat.le_refl _, fun x h => by cases h⟩
theorem zTk_w {a b : Nat} {T : List Nat} (h : zTk a T) (hab : a ≤ b) : zTk b T := ⟨Nat.le_trans h.1 hab, h.2⟩
theorem zTk_ap {a b : Nat} {S T : List Nat} (h : zTk a S) (g : zTk b T) : zTk (a + b) (S ++ T) := ⟨by rw [List.length_append]; have := h.1; have := g.1; omega, fun x hx => (List.mem_append.1 hx).elim (h.2 x) (g.2 x)⟩
theorem zTk_if {b : Nat} {T : List Nat} {P : Prop} [Decidable P] (h : zTk b T) : zTk b (if P then T else []) := by
  split
  · exact h
  · exact zTk_w zTk_nil (Nat.zero_le _)
theorem zTk_1 {x : Nat} (h : x < 127) : zTk 1 [x] := ⟨Nat.le_refl _, fun y hy => by rw [List.mem_singleton.1 hy]; exact h⟩
theorem zTk_d4 {v : Nat} (hv : v < 10000) : zTk 4 (zds v) := zTk_ap (zTk_ap (zTk_ap (zTk_if (b := 1) (zTk_1 (by omega))) (zTk_if (b := 1) (zTk_1 (by omega)))) (zTk_if (b := 1) (zTk_1 (by omega)))) (zTk_1 (by omega))
theorem zTk_d2 {v : Nat} (hv : v < 100) : zTk 2 (zds v) := by
  unfold zds
  rw [if_neg (by omega), if_neg (by omega)]
  exact zTk_ap (zTk_if (b := 1) (zTk_1 (by omega))) (zTk_1 (by omega))
theorem zTk_l {T : List Nat} {b : Nat} (h : (decide (T.length ≤ b) && T.all fun x => decide (x < 127)) = true) : zTk b T := by
  rw [Bool.and_eq_true, List.all_eq_true] at h
  exact ⟨of_decide_eq_true h.1, fun x hx => of_decide_eq_true (h.2 x hx)⟩
theorem zTk_fl (p : Nat) : zTk 6 (zfl p) := zTk_ap (zTk_ap (zTk_ap (zTk_ap (zTk_ap (zTk_1 (by decide)) (zTk_if (b := 1) (zTk_1 (by decide)))) (zTk_if (b := 1) (zTk_1 (by decide)))) (zTk_if (b := 1) (zTk_1 (by decide)))) (zTk_if (b := 1) (zTk_1 (by decide)))) (zTk_1 (by decide))
theorem zTk_ft {n f : Nat} (hn : n < 100) : zTk 18 (zft n f) := zTk_ap (zTk_ap (zTk_ap (zTk_ap (zTk_ap (zTk_ap (a := 2) (zTk_l rfl) (zTk_d2 hn)) (zTk_1 (by decide))) (b := 5) (zTk_l rfl)) (zTk_1 (by decide))) (zTk_fl f)) (zTk_1 (by decide))
theorem zTk_fu {n v : Nat} (hn : n < 100) (hv : v < 10000) : zTk 18 (zfu n v) := zTk_w (zTk_ap (zTk_ap (zTk_ap (zTk_ap (zTk_ap (zTk_ap (a := 2) (zTk_l rfl) (zTk_d2 hn)) (zTk_1 (by decide))) (b := 5) (zTk_l rfl)) (zTk_1 (by decide))) (zTk_d4 hv)) (zTk_1 (by decide))) (by decide)
theorem zTk_fx {n : Nat} {T : List Nat} (hn : n < 100) (hT : zTk 6 T) : zTk 18 (zfx n T) := zTk_ap (zTk_ap (zTk_ap (zTk_ap (zTk_ap (zTk_ap (a := 2) (zTk_l rfl) (zTk_d2 hn)) (zTk_1 (by decide))) (b := 5) (zTk_l rfl)) (zTk_1 (by decide))) hT) (zTk_1 (by decide))
theorem zTk_xp {n : Nat} (hn : n < 100) : zTk 13 (zxp n) := zTk_ap (zTk_ap (zTk_ap (zTk_ap (a := 2) (zTk_l rfl) (zTk_d2 hn)) (zTk_1 (by decide))) (b := 7) (zTk_l rfl)) (zTk_1 (by decide))
theorem zTk_ex {n : Nat} (hn : n < 100) : zTk 12 (zex n) := zTk_ap (zTk_ap (zTk_ap (zTk_ap (a := 2) (zTk_l rfl) (zTk_d2 hn)) (zTk_1 (by decide))) (b := 6) (zTk_l rfl)) (zTk_1 (by decide))
theorem zTk_sT {n v x : Nat} (hn : n < 100) (hv : v < 10000) (hx : x < 10000) : zTk 60 (zsT n v x) := zTk_w (zTk_ap (zTk_ap (zTk_ex hn) (zTk_ap (zTk_ap (zTk_ap (zTk_ap (zTk_ap (a := 2) (zTk_l rfl) (zTk_d4 hv)) (zTk_1 (by decide))) (b := 7) (zTk_l rfl)) (b := 4) (zTk_l rfl)) (zTk_1 (by decide)))) (zTk_ap (zTk_ap (zTk_ap (zTk_ap (a := 2) (zTk_l rfl) (zTk_d4 hx)) (zTk_1 (by decide))) (b := 7) (zTk_l rfl)) (zTk_1 (by decide)))) (by decide)
/-! the steps over a set -/
theorem zsetf_m (M : List zMg) (v f : Nat) : ((zsetf M v f).map fun g => g.1) = M.map fun g => g.1 := by
  unfold zsetf
  rw [List.map_map]
  refine List.map_congr_left fun g _ => ?_
  show (if g.1 = v then (g.1, f, g.2.2) else g).1 = g.1
  split <;> rfl
def zGk (g : zMg) : Prop := g.2.1 < 16 ∧ g.2.2.length ≤ 6 ∧ ∀ x ∈ g.2.2, x < 127
theorem zsetf_k {M : List zMg} {v f : Nat} (h : ∀ g ∈ M, zGk g) (hf : f < 16) : ∀ g ∈ zsetf M v f, zGk g := by
  intro g hg
  unfold zsetf at hg
  obtain ⟨g0, h0, e⟩ := List.mem_map.1 hg
  have k := h g0 h0
  rw [← e]
  split
  · exact ⟨hf, k.2⟩
  · exact k
theorem zset_m {V : List (Nat × Nat)} {n v t t' : Nat} (h : V[n]? = some (v, t')) : ((V.set n (v, t)).map fun q => q.1) = V.map fun q => q.1 := by
  rw [List.map_set]
  refine List.ext_getElem? fun i => ?_
  rw [List.getElem?_set]
  by_cases q : n = i
  · rw [if_pos q, ← q, List.length_map, List.getElem?_map, h]
    have : n < V.length := (List.getElem?_eq_some_iff.1 h).1
    rw [if_pos this]
    rfl
  · rw [if_neg q]
theorem zset_k {V : List (Nat × Nat)} {n v t : Nat} (h : ∀ q ∈ V, q.2 < 16) (ht : t < 16) : ∀ q ∈ V.set n (v, t), q.2 < 16 := fun q hq => by
  rcases List.mem_or_eq_of_mem_set hq with e | e
  · exact h q e
  · rw [e]; exact ht
/-- the numbers are as they were, and what is said fits -/
def zJo (M : List zMg) (V : List (Nat × Nat)) (b : Nat) (σ : zSg) : Prop := (σ.1.map fun g => g.1) = (M.map fun g => g.1) ∧ (σ.2.1.map fun v => v.1) = (V.map fun v => v.1) ∧ (∀ g ∈ σ.1, zGk g) ∧ (∀ v ∈ σ.2.1, v.2 < 16) ∧ zTk b σ.2.2
theorem zsF1_ok {M : List zMg} {V : List (Nat × Nat)} {b k sg mk it n x : Nat} {w : Bool} {σ : zSg} (h : zJo M V b σ) (hn : n < 100) (hmk : k = 10 → mk < 16) (hx : ∀ g ∈ M, g.1 < x) (hx2 : x ≤ 10000) : zJo M V (b + 18 * (zcn1 M V (fun _ => true) n).toNat) (zsF1 k sg mk it w n σ) := by
  obtain ⟨h1, h2, h3, h4, h5⟩ := h
  have hc := zcn1_m (P := fun _ => true) (n := n) h1 h2
  unfold zsF1
  rw [← hc, zcn1_e]
  cases hv : σ.2.1[n - 1]? with
  | none => exact ⟨h1, h2, h3, h4, h5⟩
  | some v =>
    obtain ⟨v, t⟩ := v
    dsimp only
    cases hf : zfind σ.1 v with
    | none =>
      rw [zfd_e hf]
      exact ⟨h1, h2, h3, h4, h5⟩
    | some g =>
      obtain ⟨f1, f2, f3⟩ := zfd_s hf
      rw [f3]
      have k1 := h3 g f1
      dsimp only
      by_cases k10 : k = 10
      · rw [if_pos k10]
        have fl := zsf_lt' (sg := sg) k1.1 (hmk k10)
        exact ⟨(zsetf_m _ _ _).trans h1, (zset_m hv).trans h2, zsetf_k h3 fl, zset_k h4 fl, zTk_ap h5 (zTk_ft hn)⟩
      · rw [if_neg k10]
        have fl : (if it = 2 ∧ w = true then g.2.1 ||| 1 else g.2.1) < 16 := by
          split
          · exact (zsf_lt g.2.1 k1.1 1 (by decide)).1
          · exact k1.1
        have tl : (if it = 0 then g.2.1 else t) < 16 := by
          split
          · exact k1.1
          · exact h4 _ (List.mem_of_getElem? hv)
        have vl : v < x := by
          have : v ∈ σ.1.map fun g => g.1 := List.mem_map.2 ⟨g, f1, f2⟩
          rw [h1] at this
          obtain ⟨g0, q1, q2⟩ := List.mem_map.1 this
          rw [← q2]; exact hx g0 q1
        refine ⟨(zsetf_m _ _ _).trans h1, (zset_m hv).trans h2, zsetf_k h3 fl, zset_k h4 tl, zTk_ap h5 (?_ : zTk 18 _)⟩
        split
        · exact zTk_ft hn
        · split
          · exact zTk_fu hn (by omega)
          · exact zTk_fx hn k1.2
theorem zsF_ok {M : List zMg} {V : List (Nat × Nat)} {P : zHd} {k sg mk it x : Nat} {w : Bool} (hmk : k = 10 → mk < 16) (hx : ∀ g ∈ M, g.1 < x) (hx2 : x ≤ 10000) : ∀ (f n b : Nat) (σ : zSg), n + f ≤ 100 → zJo M V b σ → zJo M V (b + 18 * zcn M V (fun _ => true) f n) (zov P (zsF1 k sg mk it w) f n σ)
  | 0, _, _, _, _, h => h
  | f + 1, n, b, σ, hn, h => by
    have st : zJo M V (b + 18 * (zcn1 M V (fun _ => true) n).toNat) (if P n = true then zsF1 k sg mk it w n σ else σ) := by
      by_cases q : P n = true
      · rw [if_pos q]; exact zsF1_ok h (by omega) hmk hx hx2
      · rw [if_neg q]
        obtain ⟨h1, h2, h3, h4, h5⟩ := h
        exact ⟨h1, h2, h3, h4, zTk_w h5 (Nat.le_add_right _ _)⟩
    have ih := zsF_ok (P := P) (w := w) (sg := sg) (it := it) hmk hx hx2 f (n + 1) _ _ (by omega) st
    unfold zov zcn
    obtain ⟨h1, h2, h3, h4, h5⟩ := ih
    exact ⟨h1, h2, h3, h4, zTk_w h5 (by omega)⟩
theorem ztl1_ok {M : List zMg} {V : List (Nat × Nat)} {b n : Nat} {σ : List (Nat × Nat) × List Nat} (h2 : (σ.1.map fun v => v.1) = (V.map fun v => v.1)) (h3 : ∀ g ∈ M, zGk g) (h4 : ∀ v ∈ σ.1, v.2 < 16) (h5 : zTk b σ.2) (hn : n < 100) : ((ztl1 M n σ).1.map fun v => v.1) = (V.map fun v => v.1) ∧ (∀ v ∈ (ztl1 M n σ).1, v.2 < 16) ∧ zTk (b + 18 * (zcn1 M V (fun _ => true) n).toNat) (ztl1 M n σ).2 := by
  have hc := zcn1_m (M := M) (M' := M) (P := fun _ => true) (n := n) rfl h2
  unfold ztl1
  rw [← hc, zcn1_e]
  cases hv : σ.1[n - 1]? with
  | none => exact ⟨h2, h4, h5⟩
  | some v =>
    obtain ⟨v, t⟩ := v
    dsimp only
    cases hf : zfind M v with
    | none =>
      rw [zfd_e hf]
      exact ⟨h2, h4, h5⟩
    | some g =>
      obtain ⟨f1, f2, f3⟩ := zfd_s hf
      rw [f3]
      have k1 := h3 g f1
      dsimp only
      split
      · exact ⟨h2, h4, zTk_w h5 (Nat.le_add_right _ _)⟩
      · exact ⟨(zset_m hv).trans h2, zset_k h4 k1.1, zTk_ap h5 (zTk_ft hn)⟩
theorem ztl_ok {M : List zMg} {V : List (Nat × Nat)} (h3 : ∀ g ∈ M, zGk g) : ∀ (f n b : Nat) (σ : List (Nat × Nat) × List Nat), n + f ≤ 100 → (σ.1.map fun v => v.1) = (V.map fun v => v.1) → (∀ v ∈ σ.1, v.2 < 16) → zTk b σ.2 → ((zov (fun _ => true) (ztl1 M) f n σ).1.map fun v => v.1) = (V.map fun v => v.1) ∧ (∀ v ∈ (zov (fun _ => true) (ztl1 M) f n σ).1, v.2 < 16) ∧ zTk (b + 18 * zcn M V (fun _ => true) f n) (zov (fun _ => true) (ztl1 M) f n σ).2
  | 0, _, _, _, _, h2, h4, h5 => ⟨h2, h4, h5⟩
  | f + 1, n, b, σ, hn, h2, h4, h5 => by
    have st := ztl1_ok h2 h3 h4 h5 (show n < 100 by omega)
    have ih := ztl_ok (V := V) h3 f (n + 1) _ _ (by omega) st.1 st.2.1 st.2.2
    show ((zov (fun _ => true) (ztl1 M) f (n + 1) (ztl1 M n σ)).1.map fun v => v.1) = _ ∧ (∀ v ∈ (zov (fun _ => true) (ztl1 M) f (n + 1) (ztl1 M n σ)).1, v.2 < 16) ∧ zTk _ (zov (fun _ => true) (ztl1 M) f (n + 1) (ztl1 M n σ)).2
    have e : zcn M V (fun _ => true) (f + 1) n = (zcn1 M V (fun _ => true) n).toNat + zcn M V (fun _ => true) f (n + 1) := rfl
    exact ⟨ih.1, ih.2.1, zTk_w ih.2.2 (by rw [e]; omega)⟩
/-- messages that are copied -/
def zJc (B : List zMg) (x : Nat) (σ : Nat × List zMg) : Prop := (σ.2.map fun g => g.1).Pairwise (· < ·) ∧ (∀ g ∈ σ.2, g.1 < σ.1) ∧ (∀ g ∈ σ.2, zGk g) ∧ (∀ g ∈ σ.2, (∃ g0 ∈ B, g0.1 = g.1) ∨ x ≤ g.1) ∧ σ.1 + B.length = x + σ.2.length ∧ x ≤ σ.1
theorem zap_pw {M : List zMg} {x f : Nat} {T : List Nat} (h : (M.map fun g => g.1).Pairwise (· < ·)) (hx : ∀ g ∈ M, g.1 < x) : ((M ++ [(x, f, T)]).map fun g => g.1).Pairwise (· < ·) ∧ ∀ g ∈ M ++ [(x, f, T)], g.1 < x + 1 := by
  constructor
  · rw [List.map_append, List.pairwise_append]
    refine ⟨h, List.pairwise_singleton _ _, fun a ha b hb => ?_⟩
    obtain ⟨g, h1, h2⟩ := List.mem_map.1 ha
    have hb : b ∈ [x] := hb
    rw [List.mem_singleton.1 hb, ← h2]
    exact hx g h1
  · intro g hg
    rcases List.mem_append.1 hg with q | q
    · have := hx g q; omega
    · rw [List.mem_singleton.1 q]; exact Nat.lt_succ_self x
theorem zcp_ok {M B : List zMg} {V : List (Nat × Nat)} {P : zHd} {x : Nat} (hM : ∀ g ∈ M, zGk g) : ∀ (f n : Nat) (σ : Nat × List zMg), zJc B x σ → zJc B x (zov P (zcp1 M V) f n σ) ∧ (zov P (zcp1 M V) f n σ).2.length ≤ σ.2.length + zcn M V P f n
  | 0, _, _, h => ⟨h, Nat.le_refl _⟩
  | f + 1, n, σ, h => by
    have st : zJc B x (if P n = true then zcp1 M V n σ else σ) ∧ (if P n = true then zcp1 M V n σ else σ).2.length ≤ σ.2.length + (zcn1 M V P n).toNat := by
      by_cases q : P n = true
      · rw [if_pos q, zcn1_e, q]
        unfold zcp1
        cases hv : V[n - 1]? with
        | none => exact ⟨h, Nat.le_add_right _ _⟩
        | some v =>
          obtain ⟨v, t⟩ := v
          dsimp only
          cases hf : zfind M v with
          | none => exact ⟨h, Nat.le_add_right _ _⟩
          | some g =>
            obtain ⟨f1, f2, f3⟩ := zfd_s hf
            rw [f3]
            obtain ⟨h1, h2, h3, h4, h5, h6⟩ := h
            have ap := zap_pw (f := g.2.1) (T := g.2.2) h1 h2
            refine ⟨⟨ap.1, ap.2, fun g' hg => ?_, fun g' hg => ?_, ?_, by dsimp only; omega⟩, ?_⟩
            · rcases List.mem_append.1 hg with z | z
              · exact h3 g' z
              · rw [List.mem_singleton.1 z]; exact hM g f1
            · rcases List.mem_append.1 hg with z | z
              · exact h4 g' z
              · rw [List.mem_singleton.1 z]; exact Or.inr h6
            · show σ.1 + 1 + B.length = x + (σ.2 ++ [_]).length
              rw [List.length_append, List.length_singleton]
              omega
            · show (σ.2 ++ [_]).length ≤ _ + 1
              rw [List.length_append, List.length_singleton]
              exact Nat.le_refl _
      · rw [if_neg q]
        exact ⟨h, Nat.le_add_right _ _⟩
    have ih := zcp_ok (B := B) (V := V) (P := P) (x := x) hM f (n + 1) _ st.1
    have e : zcn M V P (f + 1) n = (zcn1 M V P n).toNat + zcn M V P f (n + 1) := rfl
    refine ⟨ih.1, Nat.le_trans ih.2 ?_⟩
    rw [e]
    have := st.2
    omega
/-- what is gone goes from a view -/
theorem zgn_ok {M : List zMg} : ∀ (V : List (Nat × Nat)) (n : Nat), n + V.length ≤ 100 → (zgn M n V).1 = (V.filter fun v => zfd M v.1) ∧ zTk (13 * V.length) (zgn M n V).2
  | [], _, _ => ⟨rfl, zTk_nil⟩
  | v :: V, n, h => by
    rw [List.length_cons] at h
    rw [List.filter_cons]
    unfold zgn
    cases hf : zfind M v.1 with
    | none =>
      have ih := zgn_ok (M := M) V n (by omega)
      rw [zfd_e hf, if_neg Bool.noConfusion]
      exact ⟨ih.1, zTk_w (zTk_ap (zTk_xp (by omega)) ih.2) (by rw [List.length_cons]; omega)⟩
    | some g =>
      have ih := zgn_ok (M := M) V (n + 1) (by omega)
      rw [(zfd_s hf).2.2, if_pos rfl]
      exact ⟨by rw [← ih.1], zTk_w ih.2 (by rw [List.length_cons]; omega)⟩
/-- new messages come into a view -/
theorem ztk_sub : ∀ (M : List zMg) (V : List (Nat × Nat)), ∀ v ∈ V, v ∈ ztk M V
  | [], _, _, h => h
  | g :: M, V, v, h => by
    unfold ztk
    refine ztk_sub M _ v ?_
    split
    · exact List.mem_append.2 (Or.inl h)
    · exact h
theorem ztk_full : ∀ (M : List zMg) (V : List (Nat × Nat)), 40 ≤ V.length → ztk M V = V
  | [], _, _ => rfl
  | g :: M, V, h => by
    unfold ztk
    rw [if_neg (fun q => by have := q.1; omega)]
    exact ztk_full M V h
theorem ztk_ok {x : Nat} : ∀ (M : List zMg) (V : List (Nat × Nat)), (M.map fun g => g.1).Pairwise (· < ·) → (∀ g ∈ M, zGk g ∧ g.1 < x) → (V.map fun v => v.1).Pairwise (· < ·) → V.length ≤ 40 → (∀ v ∈ V, v.2 < 16 ∧ v.1 < x) → (∀ g ∈ M, zhas V g.1 = false → ∀ v ∈ V, v.1 < g.1) → ((ztk M V).map fun v => v.1).Pairwise (· < ·) ∧ (ztk M V).length ≤ 40 ∧ (∀ v ∈ ztk M V, v.2 < 16 ∧ v.1 < x) ∧ ∀ g ∈ M, zhas (ztk M V) g.1 = false → ∀ v ∈ ztk M V, v.1 < g.1
  | [], V, _, _, h3, h4, h5, _ => ⟨h3, h4, h5, by intro g hg; cases hg⟩
  | g :: M, V, h1, h2, h3, h4, h5, h6 => by
    rw [List.map_cons, List.pairwise_cons] at h1
    have g2 := h2 g (List.mem_cons_self ..)
    have h2' : ∀ g' ∈ M, zGk g' ∧ g'.1 < x := fun g' hg => h2 g' (List.mem_cons_of_mem _ hg)
    have h6' : ∀ g' ∈ M, zhas V g'.1 = false → ∀ v ∈ V, v.1 < g'.1 := fun g' hg => h6 g' (List.mem_cons_of_mem _ hg)
    unfold ztk
    by_cases q : V.length < 40 ∧ zhas V g.1 = false
    · rw [if_pos q]
      have hlt := h6 g (List.mem_cons_self ..) q.2
      have k := ztk_ok (x := x) M (V ++ [(g.1, g.2.1)]) h1.2 h2' (by
        rw [List.map_append, List.pairwise_append]
        refine ⟨h3, List.pairwise_singleton _ _, fun a ha b hb => ?_⟩
        obtain ⟨v, z1, z2⟩ := List.mem_map.1 ha
        have hb : b ∈ [g.1] := hb
        rw [List.mem_singleton.1 hb, ← z2]
        exact hlt v z1) (by rw [List.length_append, List.length_singleton]; omega) (fun v hv => by
        rcases List.mem_append.1 hv with z | z
        · exact h5 v z
        · rw [List.mem_singleton.1 z]; exact ⟨g2.1.1, g2.2⟩) (fun g' hg hh v hv => by
        rw [zhas_f] at hh
        have hV : zhas V g'.1 = false := zhas_f.2 fun q' hq' => hh q' (List.mem_append.2 (Or.inl hq'))
        rcases List.mem_append.1 hv with z | z
        · exact h6' g' hg hV v z
        · rw [List.mem_singleton.1 z]; exact h1.1 g'.1 (List.mem_map.2 ⟨g', hg, rfl⟩))
      refine ⟨k.1, k.2.1, k.2.2.1, fun g' hg hh => ?_⟩
      rcases List.mem_cons.1 hg with z | z
      · exfalso
        rw [zhas_f] at hh
        exact hh (g.1, g.2.1) (ztk_sub M _ _ (List.mem_append.2 (Or.inr (List.mem_singleton.2 rfl)))) (by rw [z])
      · exact k.2.2.2 g' z hh
    · rw [if_neg q]
      have k := ztk_ok (x := x) M V h1.2 h2' h3 h4 h5 h6'
      refine ⟨k.1, k.2.1, k.2.2.1, fun g' hg hh => ?_⟩
      rcases List.mem_cons.1 hg with z | z
      · rw [z] at hh ⊢
        by_cases w : V.length < 40
        · exfalso
          have : zhas V g.1 = true := by
            cases u : zhas V g.1 with
            | true => rfl
            | false => exact absurd ⟨w, u⟩ q
          obtain ⟨v, v1, v2⟩ := zhas_t.1 this
          exact (zhas_f.1 hh) v (ztk_sub M V v v1) v2
        · rw [ztk_full M V (by omega)] at hh ⊢
          exact h6 g (List.mem_cons_self ..) hh
      · exact k.2.2.2 g' z hh
