/-! indices, states, sets: the small methods of the component -/
theorem ix_5 (i j : Nat) : nI i * 5 + nI j = nI (5 * i + j) := by
  show nI i * nI 5 + nI j = _
  rw [pk_mul, nI_add, Nat.mul_comm]
theorem ix_5' (i j : Nat) : 5 * nI i + nI j = nI (5 * i + j) := by
  show nI 5 * nI i + nI j = _
  rw [pk_mul, nI_add]
theorem ix_6 (i j : Nat) : nI i * 6 + nI j = nI (6 * i + j) := by
  show nI i * nI 6 + nI j = _
  rw [pk_mul, nI_add, Nat.mul_comm]
theorem ix_6' (i j : Nat) : 6 * nI i + nI j = nI (6 * i + j) := by
  show nI 6 * nI i + nI j = _
  rw [pk_mul, nI_add]
def cr_X (n : Nat) (w : Nat → Nat) (a su : Nat → Int32) : Prop := ch_ok n w ∧ (∀ k, k < 25 → a k = nI (w k)) ∧ ∀ i, i < 5 → su i = nI (ch_W w i)
def cr_Y (n : Nat) (w : Nat → Nat) (a : Nat → Int32) : Prop := ch_ok n w ∧ ∀ k, k < 25 → a k = nI (w k)
theorem cr_XY {n : Nat} {w : Nat → Nat} {a su : Nat → Int32} (h : cr_X n w a su) : cr_Y n w a := ⟨h.1, h.2.1⟩
theorem cw_0 {k : Nat} (h : k < 2 ^ 31) : nI k = 0 ↔ k = 0 := by
  rw [← nI_0]; exact nI_eq h (by decide)
theorem cw_le0 {k : Nat} (h : k < 2 ^ 31) : nI k ≤ 0 ↔ k = 0 := by
  rw [← nI_0, nI_leI h (by decide)]; omega
section
variable {n : Nat} {w : Nat → Nat} {a su : Nat → Int32} {sy ov un : Nat → Int64}
theorem xm_st1 {post : Int32 → Prop} {i : Nat} (hn : n ≤ 5) (hi : i < n) (hp : post 1) : wpX_isState post (nI n, a, su, sy, ov, un) (nI i) :=
  br_f (nI_pos (by omega)) (br_f (nI_ge hi (by omega)) hp)
theorem xm_st0 {post : Int32 → Prop} {x : Int32} (hn : n ≤ 5) (hx : ¬ ∃ i, i < n ∧ x = nI i) (hp : post 0) : wpX_isState post (nI n, a, su, sy, ov, un) x := by
  rcases pk_ix x (n := n) (by omega) with h | h | h
  · exact br_t h hp
  · by_cases z : x < 0
    · exact br_t z hp
    · exact br_f z (br_t h hp)
  · exact absurd h hx
theorem xm_has {post : Int32 → Prop} {m i : Nat} (hm : m < 32) (hi : i < 5) (h1 : m.testBit i = true → post 1) (h0 : m.testBit i = false → post 0) : wpX_has post (nI m) (nI i) := by
  have e := bm_bit m hm i hi
  unfold wpX_has
  rw [e]
  cases b : m.testBit i
  · exact br_t (by simp) (h0 b)
  · exact br_f (by simp) (h1 b)
theorem xm_sw {post : Int32 → Prop} (c : cr_X n w a su) {i j : Nat} (hi : i < 5) (hj : j < 5) (hp : post (nI (ch_sw w i j))) : wpX_stepWeight post (nI n, a, su, sy, ov, un) (nI i) (nI j) := by
  have e1 : (nI i).toNatClampNeg = i := nI_clamp (by omega)
  have e2 : (nI i * 5 + nI j).toNatClampNeg = 5 * i + j := by rw [ix_5]; exact nI_clamp (by omega)
  have W := ch_W_le c.1 hi
  unfold wpX_stepWeight
  dsimp only
  refine ⟨vp_in_nI hi (by omega), ?_⟩
  rw [e1, e2, c.2.2 i hi, c.2.1 _ (by omega), ix_5]
  by_cases z : ch_W w i = 0
  · refine br_t (by rw [z]; rfl) ?_
    by_cases q : i = j
    · refine br_t (by rw [q]) ?_
      rw [show ch_sw w i j = 1 by unfold ch_sw; rw [if_pos z, if_pos q]] at hp
      exact hp
    · refine br_f (fun h => q ((nI_eq (by omega) (by omega)).mp h)) ?_
      rw [show ch_sw w i j = 0 by simp [ch_sw, z, q]] at hp
      exact hp
  · refine br_f (fun h => z ((cw_0 (by omega)).mp h)) ⟨vp_in_nI (by omega) (by omega), ?_⟩
    rw [show ch_sw w i j = w (5 * i + j) by simp [ch_sw, z]] at hp
    exact hp
theorem xm_tot {post : Int32 → Prop} (c : cr_X n w a su) {i : Nat} (hi : i < 5) (hp : post (nI (ch_tot w i))) : wpX_stepTotal post (nI n, a, su, sy, ov, un) (nI i) := by
  have e1 : (nI i).toNatClampNeg = i := nI_clamp (by omega)
  have W := ch_W_le c.1 hi
  unfold wpX_stepTotal
  dsimp only
  refine ⟨vp_in_nI hi (by omega), ?_⟩
  rw [e1, c.2.2 i hi]
  by_cases z : ch_W w i = 0
  · refine br_t (by rw [z]; rfl) ?_
    rw [show ch_tot w i = 1 by simp [ch_tot, z]] at hp
    exact hp
  · refine br_f (fun h => z ((cw_0 (by omega)).mp h)) ⟨vp_in_nI hi (by omega), ?_⟩
    rw [show ch_tot w i = ch_W w i by simp [ch_tot, z]] at hp
    exact hp
/-- one step on from a set -/
theorem xm_one {post : Int32 → Prop} (c : cr_X n w a su) {m m' : Nat} (hm : m < 32) (h' : bm_is n m' (fun j => ∃ i, i < n ∧ m.testBit i = true ∧ 0 < ch_sw w i j)) (hp : post (nI m')) : wpX_oneStepFrom post (nI n, a, su, sy, ov, un) (nI m) := by
  have h5 := c.1.2.1
  refine loop_0 (fun f i (s : Int32) => wX_oneStepFrom_4 post (nI m) (nI n) a su sy ov un f s (nI i)) (fun i s => ∃ acc, s = nI acc ∧ bm_is n acc (fun j => ∃ x, x < i ∧ m.testBit x = true ∧ 0 < ch_sw w x j)) n 0 ?_ ?_ ?_
  · exact ⟨0, rfl, bm_iff (bm_zero n) (fun j _ => ⟨fun z => z.elim, fun ⟨x, hx, _⟩ => by omega⟩)⟩
  · rintro f s ⟨acc, rfl, ha⟩
    refine br_t (nI_le (Nat.le_refl n) (by omega)) ?_
    rw [bm_ext ha h' (fun _ _ => Iff.rfl)]
    exact hp
  · rintro f i s hi ⟨acc, rfl, ha⟩ ih
    refine br_f (nI_ge hi (by omega)) ?_
    refine loop_0 (fun g j (s : Int32) => wX_oneStepFrom_15 post (wX_oneStepFrom_4 post (nI m) (nI n) a su sy ov un f) (nI m) (nI i) (nI n) a su sy ov un g s (nI j)) (fun j s => ∃ acc, s = nI acc ∧ bm_is n acc (fun y => (∃ x, x < i ∧ m.testBit x = true ∧ 0 < ch_sw w x y) ∨ (y < j ∧ m.testBit i = true ∧ 0 < ch_sw w i y))) n (nI acc) ?_ ?_ ?_
    · exact ⟨acc, rfl, bm_iff ha (fun y _ => ⟨fun z => .inl z, fun z => z.elim id (fun q => absurd q.1 (by omega))⟩)⟩
    · rintro g s ⟨acc, rfl, ha⟩
      refine br_t (nI_le (Nat.le_refl n) (by omega)) (nm_r (nI_1 i) (ih _ ⟨acc, rfl, bm_iff ha (fun y hy => ?_)⟩))
      constructor
      · rintro (⟨x, hx, q⟩ | ⟨_, q⟩)
        · exact ⟨x, by omega, q⟩
        · exact ⟨i, by omega, q⟩
      · rintro ⟨x, hx, q⟩
        by_cases e : x = i
        · rw [e] at q; exact .inr ⟨hy, q⟩
        · exact .inl ⟨x, by omega, q⟩
    · rintro g j s hj ⟨acc, rfl, ha⟩ ih2
      refine br_f (nI_ge hj (by omega)) ?_
      refine xm_has hm (by omega) (fun b => ?_) (fun b => ?_)
      · refine br_f (by decide) ?_
        refine xm_sw c (by omega) (by omega) ?_
        have sl := ch_sw_le c.1 (i := i) (j := j) (by omega) (by omega)
        rcases Nat.eq_zero_or_pos (ch_sw w i j) with z | z
        · refine br_t ((cw_le0 (by omega)).mpr z) (nm_r (nI_1 j) (ih2 _ ⟨acc, rfl, bm_iff ha (fun y hy => ?_)⟩))
          constructor
          · rintro (q | ⟨q, r⟩)
            · exact .inl q
            · exact .inr ⟨by omega, r⟩
          · rintro (q | ⟨q, r⟩)
            · exact .inl q
            · have : y ≠ j := fun e => by rw [e] at r; omega
              exact .inr ⟨by omega, r⟩
        · refine br_f (fun h => by have := (cw_le0 (by omega)).mp h; omega) ?_
          rw [bm_shl j (by omega), bm_or]
          refine nm_e (nm_r (nI_1 j) (ih2 _ ⟨_, rfl, bm_iff (bm_or2 ha (bm_one hj)) (fun y hy => ?_)⟩))
          constructor
          · rintro ((q | ⟨q, r⟩) | q)
            · exact .inl q
            · exact .inr ⟨by omega, r⟩
            · rw [q]; exact .inr ⟨by omega, b, z⟩
          · rintro (q | ⟨q, r⟩)
            · exact .inl (.inl q)
            · by_cases e : y = j
              · exact .inr e
              · exact .inl (.inr ⟨by omega, r⟩)
      · refine br_t rfl (nm_r (nI_1 j) (ih2 _ ⟨acc, rfl, bm_iff ha (fun y hy => ?_)⟩))
        constructor
        · rintro (q | ⟨q, r⟩)
          · exact .inl q
          · exact .inr ⟨by omega, r⟩
        · rintro (q | ⟨q, r⟩)
          · exact .inl q
          · rw [b] at r; exact absurd r.1 (by decide)
theorem bm_exists (n : Nat) (p : Nat → Prop) : ∃ m, bm_is n m p := by
  induction n with
  | zero => exact ⟨0, by decide, fun i hi => absurd hi (by omega)⟩
  | succ n ih =>
    obtain ⟨m, h1, h2⟩ := ih
    have up : bm_is (n + 1) m (fun i => i < n ∧ p i) := by
      refine ⟨by rw [Nat.pow_succ]; omega, fun i hi => ?_⟩
      rcases Nat.lt_or_ge i n with q | q
      · rw [h2 i q]; exact ⟨fun x => ⟨q, x⟩, fun x => x.2⟩
      · rw [bm_hi h1 q]; exact ⟨fun x => absurd x (by decide), fun x => by omega⟩
    by_cases z : p n
    · refine ⟨m ||| 2 ^ n, bm_iff (bm_or2 up (bm_one (Nat.lt_succ_self n))) (fun i hi => ⟨?_, ?_⟩)⟩
      · rintro (q | q)
        · exact q.2
        · rw [q]; exact z
      · intro q
        by_cases e : i = n
        · exact .inr e
        · exact .inl ⟨by omega, q⟩
    · refine ⟨m, bm_iff up (fun i hi => ⟨fun q => q.2, fun q => ⟨?_, q⟩⟩)⟩
      have : i ≠ n := fun e => z (e ▸ q)
      omega
/-- the states to which one can go -/
theorem xm_reached {post : Int32 → Prop} (c : cr_X n w a su) {i m' : Nat} (hi : i < n) (h' : bm_is n m' (gr_R n (fun x y => 0 < ch_sw w x y) (fun _ => False) i (n - 1))) (hp : post (nI m')) : wpX_reachedFrom post (nI n, a, su, sy, ov, un) (nI i) := by
  have h5 := c.1.2.1
  refine nm_r (bm_shl i (by omega)) ?_
  refine pk_loop (fun f k (s : Int32) => wX_reachedFrom_6 post (nI n) a su sy ov un f s (nI k)) (fun k s => 1 ≤ k ∧ ∃ acc, s = nI acc ∧ bm_is n acc (gr_R n (fun x y => 0 < ch_sw w x y) (fun _ => False) i (k - 1))) n 1 (nI (2 ^ i)) (by omega) ?_ ?_ ?_
  · exact ⟨by omega, _, rfl, bm_one hi⟩
  · rintro f s ⟨_, acc, rfl, ha⟩
    refine br_t (nI_le (Nat.le_refl n) (by omega)) ?_
    rw [bm_ext ha h' (fun _ _ => Iff.rfl)]
    exact hp
  · rintro f k s hk ⟨k1, acc, rfl, ha⟩ ih
    refine br_f (nI_ge hk (by omega)) ?_
    obtain ⟨m, hm⟩ := bm_exists n (fun j => ∃ x, x < n ∧ acc.testBit x = true ∧ 0 < ch_sw w x j)
    refine xm_one c (bm_lt ha h5) hm ?_
    rw [bm_or]
    refine nm_e (nm_r (nI_1 k) (ih _ ⟨by omega, _, rfl, ?_⟩))
    rw [show k + 1 - 1 = (k - 1) + 1 by omega]
    refine bm_iff (bm_or2 ha hm) (fun y hy => ?_)
    constructor
    · rintro (q | ⟨x, hx, q, e⟩)
      · exact .inl q
      · exact .inr ⟨hy, x, hx, (ha.2 x hx).mp q, fun z => z, e⟩
    · rintro (q | ⟨_, x, hx, q, _, e⟩)
      · exact .inl q
      · exact .inr ⟨x, hx, (ha.2 x hx).mpr q, e⟩
end
