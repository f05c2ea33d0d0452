/-! ===== the reference takes new messages into a view ===== -/
def zvi (m : zMm) (v : Nat) : Nat → Nat → Bool
  | 0, _ => false
  | f + 1, k => decide (m 0 145 k = v) || zvi m v f (k + 1)
theorem zvi_any (m : zMm) (v : Nat) : ∀ f k, zvi m v f k = ((List.range' k f).map fun i => (m 0 145 i, m 0 146 i)).any fun q => decide (q.1 = v) := by
  intro f
  induction f with
  | zero => intro k; rfl
  | succ f ih =>
    intro k
    rw [List.range'_succ, List.map_cons, List.any_cons, ← ih (k + 1)]
    rfl
def zhas (V : List (Nat × Nat)) (v : Nat) : Bool := V.any fun q => decide (q.1 = v)
theorem zvi_has (m : zMm) (v s : Nat) : zvi m v (m 0 144 s) (40 * s) = zhas (zvw m s) v := by
  rw [zvi_any, zvw_r]; rfl
/-- new messages at a view's end -/
def ztk : List zMg → List (Nat × Nat) → List (Nat × Nat)
  | [], V => V
  | g :: M, V => ztk M (if V.length < 40 ∧ zhas V g.1 = false then V ++ [(g.1, g.2.1)] else V)
section
variable {L : Nat} {xs : Nat → Int32} {h : zH} {c : Nat → Nat}
theorem s142 (hx : zFx h) {m : zMm} {N : Nat} (hN : N ≤ 9999) (hl : zLC m c) (hv : zVB m) (hok : zMOk N m) (hr : zRL m + 20 * znp m ≤ 1980) : ∃ m', zCl (zPr L xs) 142 [.ref 132] (zMH h m) = some (.inl none, zMH h m') ∧ zKv m m' ∧ zMOk N m' ∧ zvw m' (m 520 132 0) = (zgn (zbm m (zsb m)) 1 (zvw m (m 520 132 0))).1 ∧ zrt m' = zrt m ++ (zgn (zbm m (zsb m)) 1 (zvw m (m 520 132 0))).2 ∧ zRL m' ≤ zRL m + 20 * znp m := by
  have lp : (zvw m (m 520 132 0)).length = znp m := zvw_len
  rw [en_142, p142_0_1 hx hl]
  have := s142l (L := L) (xs := xs) hx hN (zbm m (zsb m)) (zvw m (m 520 132 0)) 1 m [] .unset zsecu hl hv hok rfl rfl rfl (by rw [lp]; exact hr)
  rw [lp] at this
  exact this
theorem s143 (hx : zFx h) {m : zMm} (hl : zLC m c) {v N : Nat} (hok : zMOk N m) (hN : N ≤ 9999) (hv : v < 2147483648) : zCl (zPr L xs) 143 [.ref 132, .int (nI v)] (zMH h m) = some (.inl (some (.int (nI (zhas (zvw m (m 520 132 0)) v).toNat))), zMH h m) := by
  have t3 := hl.1.1
  have h40 := (hok.2.2.2.1 _ t3).2.2.1
  have loop : ∀ (f k : Nat) (y : Bool), f + k = m 0 144 (m 520 132 0) → zEv (zPr L xs) 0 143 4 [.val (.ref 132), .val (.int (nI v)), .val (.int (nI y.toNat)), .val (.int (nI k))] [] (zMH h m) = some (.inl (some (.int (nI (y || zvi m v f (40 * (m 520 132 0) + k)).toNat))), zMH h m) := by
    intro f
    induction f with
    | zero =>
      intro k y hk
      rw [show (y || zvi m v 0 (40 * (m 520 132 0) + k)) = y from Bool.or_false y]
      exact p143_4_4 hx hl (by omega) t3 (by omega) (by omega) (by cases y <;> decide)
    | succ f ih =>
      intro k y hk
      have vb := (hok.2.1 (40 * (m 520 132 0) + k) (by omega)).1
      have un : zvi m v (f + 1) (40 * (m 520 132 0) + k) = (decide (m 0 145 (40 * (m 520 132 0) + k) = v) || zvi m v f (40 * (m 520 132 0) + (k + 1))) := rfl
      rw [un]
      cases y with
      | true =>
        rw [show nI (true || (decide (m 0 145 (40 * (m 520 132 0) + k) = v) || zvi m v f (40 * (m 520 132 0) + (k + 1)))).toNat = nI (true || zvi m v f (40 * (m 520 132 0) + (k + 1))).toNat from rfl, ← ih (k + 1) true (by omega)]
        exact p143_4_3 (x2 := 1) hx hl (by omega) (by decide) t3 (by omega) (by omega) (by decide)
      | false =>
        by_cases e : m 0 145 (40 * (m 520 132 0) + k) = v
        · rw [decide_eq_true e, show nI (false || (true || zvi m v f (40 * (m 520 132 0) + (k + 1)))).toNat = nI (true || zvi m v f (40 * (m 520 132 0) + (k + 1))).toNat from rfl, ← ih (k + 1) true (by omega)]
          exact p143_4_1 (x2 := 0) hx hl (by omega) rfl e t3 (by omega) (by omega) (by omega)
        · rw [decide_eq_false e, show nI (false || (false || zvi m v f (40 * (m 520 132 0) + (k + 1)))).toNat = nI (false || zvi m v f (40 * (m 520 132 0) + (k + 1))).toNat from rfl, ← ih (k + 1) false (by omega)]
          exact p143_4_2 (x2 := 0) hx hl (by omega) rfl e t3 (by omega) (by omega) (by omega) (by omega) hv
  rw [en_143, p143_0_1 hx hl]
  have := loop (m 0 144 (m 520 132 0)) 0 false rfl
  rw [Bool.false_or, Nat.add_zero, zvi_has] at this
  exact this
/-- one entry more in the own view -/
theorem zvw_push {m : zMm} {N v g : Nat} (hok : zMOk N m) (t3 : m 520 132 0 < 3) (h40 : m 0 144 (m 520 132 0) < 40) (hv : v < N) (hg : g < 16) :
    ∃ m', m' = u3 (u3 (u3 m 0 145 (40 * (m 520 132 0) + m 0 144 (m 520 132 0)) v) 0 146 (40 * (m 520 132 0) + m 0 144 (m 520 132 0)) g) 0 144 (m 520 132 0) (m 0 144 (m 520 132 0) + 1) ∧ zKv m m' ∧ zMOk N m' ∧ zvw m' (m 520 132 0) = zvw m (m 520 132 0) ++ [(v, g)] ∧ zrt m' = zrt m ∧ zRL m' = zRL m := by
  let m' : zMm := u3 (u3 (u3 m 0 145 (40 * (m 520 132 0) + m 0 144 (m 520 132 0)) v) 0 146 (40 * (m 520 132 0) + m 0 144 (m 520 132 0)) g) 0 144 (m 520 132 0) (m 0 144 (m 520 132 0) + 1)
  have F : zfr [(0, 145), (0, 146), (0, 144), (0, 149), (0, 150)] m m' := zfr_u (zfr_u (zfr_u (zfr_rf _ _) (by decide)) (by decide)) (by decide)
  have vw : ∀ q, m' 0 145 q = if q = 40 * (m 520 132 0) + m 0 144 (m 520 132 0) then v else m 0 145 q := fun q => by
    show u3 (u3 (u3 m 0 145 (40 * (m 520 132 0) + m 0 144 (m 520 132 0)) v) 0 146 (40 * (m 520 132 0) + m 0 144 (m 520 132 0)) g) 0 144 (m 520 132 0) (m 0 144 (m 520 132 0) + 1) 0 145 q = _
    rw [u3_a (by decide), u3_a (by decide)]
    by_cases y : q = 40 * (m 520 132 0) + m 0 144 (m 520 132 0)
    · rw [if_pos y, y, u3_eq]
    · rw [if_neg y, u3_i y]
  have to : ∀ q, m' 0 146 q = if q = 40 * (m 520 132 0) + m 0 144 (m 520 132 0) then g else m 0 146 q := fun q => by
    show u3 (u3 (u3 m 0 145 (40 * (m 520 132 0) + m 0 144 (m 520 132 0)) v) 0 146 (40 * (m 520 132 0) + m 0 144 (m 520 132 0)) g) 0 144 (m 520 132 0) (m 0 144 (m 520 132 0) + 1) 0 146 q = _
    rw [u3_a (by decide)]
    by_cases y : q = 40 * (m 520 132 0) + m 0 144 (m 520 132 0)
    · rw [if_pos y, y, u3_eq]
    · rw [if_neg y, u3_i y, u3_a (by decide)]
  have pl : ∀ s, m' 0 144 s = if s = m 520 132 0 then m 0 144 (m 520 132 0) + 1 else m 0 144 s := fun s => by
    show u3 (u3 (u3 m 0 145 (40 * (m 520 132 0) + m 0 144 (m 520 132 0)) v) 0 146 (40 * (m 520 132 0) + m 0 144 (m 520 132 0)) g) 0 144 (m 520 132 0) (m 0 144 (m 520 132 0) + 1) 0 144 s = _
    by_cases y : s = m 520 132 0
    · rw [if_pos y, y, u3_eq]
    · rw [if_neg y, u3_i y, u3_a (by decide), u3_a (by decide)]
  have z := zrt_fr (m := m) (m' := m') rfl (fun q => (u3_a (by decide)).trans ((u3_a (by decide)).trans (u3_a (by decide)))) (fun q => (u3_a (by decide)).trans ((u3_a (by decide)).trans (u3_a (by decide))))
  refine ⟨m', rfl, ⟨F, fun s hs hne => ?_, fun q _ => (u3_a (by decide)).trans ((u3_a (by decide)).trans (u3_a (by decide))), fun q _ => (u3_a (by decide)).trans ((u3_a (by decide)).trans (u3_a (by decide)))⟩, ?_, ?_, z.1, z.2⟩
  · have p4 : m' 0 144 s = m 0 144 s := by rw [pl, if_neg hne]
    have p40 := (hok.2.2.2.1 s hs).2.2.1
    refine ⟨p4, zvw_e p4 fun i hi => ?_⟩
    rw [vw, to, if_neg (by omega), if_neg (by omega)]
    exact ⟨rfl, rfl⟩
  · refine zMOk_v hok F (fun k hk => ?_) (fun s hs => ?_)
    · rw [vw, to]
      split
      · exact ⟨hv, hg⟩
      · exact hok.2.1 k hk
    · rw [pl]; split
      · omega
      · exact (hok.2.2.2.1 s hs).2.2.1
  · unfold zvw
    rw [pl, if_pos rfl, List.range_succ, List.map_append]
    congr 1
    · exact List.map_congr_left fun i hi => by
        have hi := List.mem_range.mp hi
        rw [vw, to, if_neg (by omega), if_neg (by omega)]
    · show [(m' 0 145 (40 * (m 520 132 0) + m 0 144 (m 520 132 0)), m' 0 146 (40 * (m 520 132 0) + m 0 144 (m 520 132 0)))] = _
      rw [vw, to, if_pos rfl, if_pos rfl]
/-- tell takes new messages -/
theorem s144b (hx : zFx h) {N b x4 : Nat} (hN : N ≤ 9999) (hb : b < 4) {w1 w2 : Slot} : ∀ (f i : Nat) (m : zMm) (w6 : Slot), w6 ≠ .second → zLC m c → zMOk N m → f + i = 10 * b + m 0 136 b → 10 * b ≤ i → ∃ m' w', w' ≠ Slot.second ∧ zEv (zPr L xs) 4 144 66 [.val (.ref 132), w1, w2, .val (.int (nI b)), .val (.int (nI x4)), .val (.int (nI i)), w6] [] (zMH h m) = zEv (zPr L xs) 4 144 66 [.val (.ref 132), w1, w2, .val (.int (nI b)), .val (.int (nI x4)), .val (.int (nI (10 * b + m 0 136 b))), w'] [] (zMH h m') ∧ zKv m m' ∧ zMOk N m' ∧ zvw m' (m 520 132 0) = ztk ((List.range' i f).map (zmg m)) (zvw m (m 520 132 0)) ∧ zrt m' = zrt m ∧ zRL m' = zRL m := by
  intro f
  induction f with
  | zero =>
    intro i m w6 hw6 hl hok hf hi
    rw [show i = 10 * b + m 0 136 b by omega]
    exact ⟨m, w6, hw6, rfl, zKv_rf m, hok, rfl, rfl, rfl⟩
  | succ f ih =>
    intro i m w6 hw6 hl hok hf hi
    have t3 := hl.1.1
    have hc := (hok.2.2.1 b hb).2.1
    have h40 := (hok.2.2.2.1 _ t3).2.2.1
    have oi := hok.1 i (by omega)
    have e0 := s143 (L := L) (xs := xs) hx hl (v := m 0 137 i) hok hN (by omega)
    have un : ∀ V, ztk ((List.range' i (f + 1)).map (zmg m)) V = ztk ((List.range' (i + 1) f).map (zmg m)) (if V.length < 40 ∧ zhas V (m 0 137 i) = false then V ++ [(m 0 137 i, m 0 138 i)] else V) := fun V => by
      rw [List.range'_succ, List.map_cons]; rfl
    have lv : (zvw m (m 520 132 0)).length = m 0 144 (m 520 132 0) := zvw_len
    rw [un, lv]
    have b181 := fun (m1 : zMm) (hl1 : zLC m1 c) => p144_181_1 (L := L) (xs := xs) (w1 := w1) (w2 := w2) (x3 := b) (x4 := x4) (x5 := i) hx hl1 hw6
    by_cases p40 : m 0 144 (m 520 132 0) < 40
    · cases hh : zhas (zvw m (m 520 132 0)) (m 0 137 i) with
      | false =>
        rw [hh] at e0
        rw [if_pos ⟨p40, rfl⟩]
        obtain ⟨mA, hA, k1, k2, k3, k4, k5⟩ := zvw_push hok t3 p40 oi.1 oi.2.1
        have st := p144_66_1 (L := L) (xs := xs) (w1 := w1) (w2 := w2) (w6 := w6) (x3 := b) (x4 := x4) (x5 := i) hx hl (by omega) p40 e0 rfl hb (by omega) (by omega) t3 (by omega) (by omega) (by omega)
        rw [← hA] at st
        have eA : mA 520 132 0 = m 520 132 0 := k1.1 _ _ _ (by decide)
        have cA : mA 0 136 b = m 0 136 b := k1.1 _ _ _ (by decide)
        obtain ⟨m', w', hw', e', r1, r2, r3, r4, r5⟩ := ih (i + 1) mA w6 hw6 (zLC_fr hl k1.1) k2 (by omega) (by omega)
        have mg : (List.range' (i + 1) f).map (zmg mA) = (List.range' (i + 1) f).map (zmg m) := List.map_congr_left fun q _ => by
          have F := k1.1
          unfold zmg ztx
          rw [show mA 0 137 q = m 0 137 q from F _ _ _ (by decide), show mA 0 138 q = m 0 138 q from F _ _ _ (by decide), show mA 0 139 q = m 0 139 q from F _ _ _ (by decide)]
          congr 2
          exact List.map_congr_left fun k _ => F _ _ _ (by decide)
        rw [eA, mg, k3] at r3
        rw [cA] at e'
        exact ⟨m', w', hw', st.trans ((b181 mA (zLC_fr hl k1.1)).trans e'), zKv_tr k1 r1, r2, r3, r4.trans k4, r5.trans k5⟩
      | true =>
        rw [hh] at e0
        rw [if_neg (fun q => by cases q.2)]
        obtain ⟨m', w', hw', e', r⟩ := ih (i + 1) m w6 hw6 hl hok (by omega) (by omega)
        exact ⟨m', w', hw', (p144_66_2 (L := L) (xs := xs) hx hl (by omega) p40 e0 rfl hb (by omega) (by omega) t3 (by omega) (by omega)).trans ((b181 m hl).trans e'), r⟩
    · rw [if_neg (fun q => p40 q.1)]
      obtain ⟨m', w', hw', e', r⟩ := ih (i + 1) m w6 hw6 hl hok (by omega) (by omega)
      exact ⟨m', w', hw', (p144_66_3 (L := L) (xs := xs) hx hl (by omega) (by omega) hb (by omega) (by omega) t3 (by omega)).trans ((b181 m hl).trans e'), r⟩
end
