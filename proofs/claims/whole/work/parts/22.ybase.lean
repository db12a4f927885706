/-! the small methods of the reference -/
def cw_p (w : Nat → Nat) (i : Nat) : Nat → Nat
  | 0 => 0
  | j + 1 => cw_p w i j + w (5 * i + j)
theorem cw_p5 (w : Nat → Nat) (i : Nat) : cw_p w i 5 = ch_W w i := by
  simp only [cw_p, ch_W, Nat.add_zero, Nat.zero_add]
section
variable {n : Nat} {w : Nat → Nat} {a : Nat → Int32} {fa fb : Int64} {up dn : Nat → Int64} {op : Nat → Int32} {tp bt nt nb : Nat → Int64}
theorem ym_st1 {post : Int32 → Prop} {i : Nat} (hn : n ≤ 5) (hi : i < n) (hp : post 1) : wpY_isState post (nI n, fa, fb, a, up, dn, op, tp, bt, nt, nb) (nI i) :=
  br_f (nI_pos (by omega)) (br_f (nI_ge hi (by omega)) hp)
theorem ym_st0 {post : Int32 → Prop} {x : Int32} (hn : n ≤ 5) (hx : ¬ ∃ i, i < n ∧ x = nI i) (hp : post 0) : wpY_isState post (nI n, fa, fb, a, up, dn, op, tp, bt, nt, nb) x := by
  rcases pk_ix x (n := n) (by omega) with h | h | h
  · exact br_t h hp
  · by_cases z : x < 0
    · exact br_t z hp
    · exact br_f z (br_t h hp)
  · exact absurd h hx
theorem ym_in {post : Int32 → Prop} {m i : Nat} (hm : m < 32) (hi : i < 5) (h1 : m.testBit i = true → post 1) (h0 : m.testBit i = false → post 0) : wpY_in post (nI n, fa, fb, a, up, dn, op, tp, bt, nt, nb) (nI m) (nI i) := by
  have e := bm_bit m hm i hi
  unfold wpY_in
  dsimp only
  rw [e]
  cases b : m.testBit i
  · exact br_f (by simp) (h0 b)
  · exact br_t (by simp) (h1 b)
theorem ym_all {post : Int32 → Prop} (c : cr_Y n w a) {i : Nat} (hi : i < 5) (hp : post (nI (ch_W w i))) : wpY_all post (nI n, fa, fb, a, up, dn, op, tp, bt, nt, nb) (nI i) := by
  refine loop_0 (fun f j (s : Int32) => wY_all_4 post (nI i) (nI n) fa fb a up dn op tp bt nt nb f s (nI j)) (fun j s => s = nI (cw_p w i j)) 5 0 rfl ?_ ?_
  · rintro f s rfl
    refine br_t (by decide) ?_
    rw [cw_p5]; exact hp
  · rintro f j s hj rfl ih
    refine br_f (nI_ge (b := 5) hj (by decide)) ?_
    rw [ix_5', nI_clamp (by omega : 5 * i + j < 2 ^ 31), c.2 _ (by omega)]
    exact ⟨vp_in_nI (by omega) (by decide), nm_r (nI_add _ _) (nm_r (nI_1 j) (ih _ rfl))⟩
theorem ym_sw {post : Int32 → Prop} (c : cr_Y n w a) {i j : Nat} (hi : i < 5) (hj : j < 5) (hp : post (nI (ch_sw w i j))) : wpY_weight post (nI n, fa, fb, a, up, dn, op, tp, bt, nt, nb) (nI i) (nI j) := by
  have W := ch_W_le c.1 hi
  unfold wpY_weight
  dsimp only
  refine ym_all c hi ?_
  rw [ix_5', nI_clamp (by omega : 5 * i + j < 2 ^ 31), c.2 _ (by omega)]
  by_cases z : ch_W w i = 0
  · refine br_t (by rw [z]; rfl) ?_
    by_cases q : i = j
    · refine br_t (by rw [q]) ?_
      rw [show ch_sw w i j = 1 by unfold ch_sw; rw [if_pos z, if_pos q]] at hp
      exact hp
    · refine br_f (fun h => q ((nI_eq (by omega) (by omega)).mp h)) ?_
      rw [show ch_sw w i j = 0 by simp [ch_sw, z, q]] at hp
      exact hp
  · refine br_f (fun h => z ((cw_0 (by omega)).mp h)) ⟨vp_in_nI (by omega) (by omega), ?_⟩
    rw [show ch_sw w i j = w (5 * i + j) by simp [ch_sw, z]] at hp
    exact hp
theorem ym_tot {post : Int32 → Prop} (c : cr_Y n w a) {i : Nat} (hi : i < 5) (hp : post (nI (ch_tot w i))) : wpY_whole post (nI n, fa, fb, a, up, dn, op, tp, bt, nt, nb) (nI i) := by
  have W := ch_W_le c.1 hi
  unfold wpY_whole
  dsimp only
  refine ym_all c hi ?_
  by_cases z : ch_W w i = 0
  · refine br_t (by rw [z]; rfl) ?_
    rw [show ch_tot w i = 1 by simp [ch_tot, z]] at hp
    exact hp
  · refine br_f (fun h => z ((cw_0 (by omega)).mp h)) ?_
    rw [show ch_tot w i = ch_W w i by simp [ch_tot, z]] at hp
    exact hp
theorem ym_d5 {p : Nat} (h : p < 2 ^ 31) : nI p / 5 = nI (p / 5) := pk_div (d := 5) h (by decide) (by decide)
theorem ym_r5 {p : Nat} (h : p < 2 ^ 31) : nI p - nI p / 5 * 5 = nI (p % 5) := pk_rem (d := 5) h (by decide) (by decide)
theorem ym_one {post : Int32 → Prop} (c : cr_Y n w a) {m m' : Nat} (hm : m < 32) (h' : bm_is n m' (fun j => ∃ i, i < n ∧ m.testBit i = true ∧ 0 < ch_sw w i j)) (hp : post (nI m')) : wpY_oneStep post (nI n, fa, fb, a, up, dn, op, tp, bt, nt, nb) (nI m) := by
  have h5 := c.1.2.1
  refine loop_0 (fun f p (s : Int32) => wY_oneStep_4 post (nI m) (nI n) fa fb a up dn op tp bt nt nb f s (nI p)) (fun p s => ∃ acc, s = nI acc ∧ bm_is n acc (fun j => ∃ i, 5 * i + j < p ∧ i < n ∧ m.testBit i = true ∧ 0 < ch_sw w i j)) 25 0 ?_ ?_ ?_
  · exact ⟨0, rfl, bm_iff (bm_zero n) (fun j _ => ⟨fun z => z.elim, fun ⟨x, hx, _⟩ => by omega⟩)⟩
  · rintro f s ⟨acc, rfl, ha⟩
    refine br_t (by decide) ?_
    rw [bm_ext ha h' (fun j hj => ⟨fun ⟨i, _, q⟩ => ⟨i, q⟩, fun ⟨i, q⟩ => ⟨i, by omega, q⟩⟩)]
    exact hp
  · rintro f p s hp25 ⟨acc, rfl, ha⟩ ih
    refine br_f (nI_ge (b := 25) hp25 (by decide)) ⟨by decide, ?_⟩
    rw [ym_r5 (by omega : p < 2 ^ 31), ym_d5 (by omega : p < 2 ^ 31)]
    have dm := Nat.div_add_mod p 5
    have ml : p % 5 < 5 := Nat.mod_lt _ (by decide)
    have dl : p / 5 < 5 := by omega
    generalize p / 5 = i at *
    generalize p % 5 = j at *
    have skip : ¬ (i < n ∧ j < n ∧ m.testBit i = true ∧ 0 < ch_sw w i j) → ∀ y, y < n → ((∃ x, 5 * x + y < p ∧ x < n ∧ m.testBit x = true ∧ 0 < ch_sw w x y) ↔ ∃ x, 5 * x + y < p + 1 ∧ x < n ∧ m.testBit x = true ∧ 0 < ch_sw w x y) := by
      intro no y hy
      constructor
      · rintro ⟨x, q, r⟩; exact ⟨x, by omega, r⟩
      · rintro ⟨x, q, r⟩
        by_cases e : 5 * x + y = p
        · have ex : x = i := by omega
          have ey : y = j := by omega
          subst ex ey
          exact absurd ⟨r.1, hy, r.2⟩ no
        · exact ⟨x, by omega, r⟩
    have s58 : ¬ (i < n ∧ j < n ∧ m.testBit i = true ∧ 0 < ch_sw w i j) → wY_oneStep_58 post (wY_oneStep_4 post (nI m) (nI n) fa fb a up dn op tp bt nt nb f) (nI m) (nI acc) (nI p) (nI n) fa fb a up dn op tp bt nt nb :=
      fun no => br_t rfl (nm_r (nI_1 p) (ih _ ⟨acc, rfl, bm_iff ha (skip no)⟩))
    rcases Nat.lt_or_ge i n with hi | hi
    · refine br_f (nI_ge hi (by omega)) ⟨by decide, ?_⟩
      rcases Nat.lt_or_ge j n with hj | hj
      · refine br_f (nI_ge hj (by omega)) ⟨by decide, ?_⟩
        refine ym_in hm (by omega) (fun b => ?_) (fun b => ?_)
        · refine br_f (by decide) ⟨by decide, by decide, ?_⟩
          refine ym_sw c (by omega) (by omega) ?_
          have sl := ch_sw_le c.1 (i := i) (j := j) (by omega) (by omega)
          rcases Nat.eq_zero_or_pos (ch_sw w i j) with z | z
          · exact br_t ((cw_le0 (by omega)).mpr z) (s58 (fun q => by omega))
          · refine br_f (fun h => by have := (cw_le0 (by omega)).mp h; omega) ?_
            refine br_f (by decide) ⟨by decide, ?_⟩
            rw [ym_r5 (by omega), show p % 5 = j by omega, bm_shl j (by omega), bm_or]
            refine nm_e (nm_r (nI_1 p) (ih _ ⟨_, rfl, bm_iff (bm_or2 ha (bm_one hj)) (fun y hy => ?_)⟩))
            constructor
            · rintro (⟨x, q, r⟩ | q)
              · exact ⟨x, by omega, r⟩
              · rw [q]; exact ⟨i, by omega, hi, b, z⟩
            · rintro ⟨x, q, r⟩
              by_cases e : 5 * x + y = p
              · exact .inr (by omega)
              · exact .inl ⟨x, by omega, r⟩
        · exact br_t rfl (s58 (fun q => by rw [b] at q; exact absurd q.2.2.1 (by decide)))
      · exact br_t (nI_le hj (by omega)) (s58 (fun q => by omega))
    · exact br_t (nI_le hi (by omega)) (s58 (fun q => by omega))
theorem ym_reach {post : Int32 → Prop} (c : cr_Y n w a) {i t m' : Nat} {T : Nat → Prop} (hi : i < n) (ht : bm_is n t T) (h' : bm_is n m' (gr_R n (fun x y => 0 < ch_sw w x y) T i 5)) (hp : post (nI m')) : wpY_reachBut post (nI n, fa, fb, a, up, dn, op, tp, bt, nt, nb) (nI i) (nI t) := by
  have h5 := c.1.2.1
  refine nm_r (bm_shl i (by omega)) ?_
  refine loop_0 (fun f k (s : Int32) => wY_reachBut_7 post (nI t) (nI n) fa fb a up dn op tp bt nt nb f s (nI k)) (fun k s => ∃ acc, s = nI acc ∧ bm_is n acc (gr_R n (fun x y => 0 < ch_sw w x y) T i k)) 5 (nI (2 ^ i)) ?_ ?_ ?_
  · exact ⟨_, rfl, bm_one hi⟩
  · rintro f s ⟨acc, rfl, ha⟩
    refine br_t (by decide) ?_
    rw [bm_ext ha h' (fun _ _ => Iff.rfl)]
    exact hp
  · rintro f k s hk ⟨acc, rfl, ha⟩ ih
    refine br_f (nI_ge (b := 5) hk (by decide)) ?_
    have hd := bm_diff h5 ha ht
    obtain ⟨m, hm⟩ := bm_exists n (fun j => ∃ x, x < n ∧ (acc &&& (31 ^^^ t)).testBit x = true ∧ 0 < ch_sw w x j)
    rw [bm_not acc (bm_lt ha h5) t (bm_lt ht h5)]
    refine ym_one c (bm_lt hd h5) hm ?_
    rw [bm_or]
    refine nm_e (nm_r (nI_1 k) (ih _ ⟨_, rfl, bm_iff (bm_or2 ha hm) (fun y hy => ?_)⟩))
    constructor
    · rintro (q | ⟨x, hx, q, e⟩)
      · exact .inl q
      · have := (hd.2 x hx).mp q
        exact .inr ⟨hy, x, hx, this.1, this.2, e⟩
    · rintro (q | ⟨_, x, hx, q, nt, e⟩)
      · exact .inl q
      · exact .inr ⟨x, hx, (hd.2 x hx).mpr ⟨q, nt⟩, e⟩
theorem ym_reached {post : Int32 → Prop} (c : cr_Y n w a) {i m' : Nat} (hi : i < n) (h' : bm_is n m' (gr_R n (fun x y => 0 < ch_sw w x y) (fun _ => False) i (n - 1))) (hp : post (nI m')) : wpY_reached post (nI n, fa, fb, a, up, dn, op, tp, bt, nt, nb) (nI i) := by
  have h5 := c.1.2.1
  unfold wpY_reached
  dsimp only
  exact ym_reach (t := 0) c hi (bm_zero n) (bm_iff h' (fun j _ => (gr_R5 hi (by omega)).symm)) hp
/-- the component of a state -/
theorem ym_class {post : Int32 → Prop} (c : cr_Y n w a) {i m' : Nat} (hi : i < n) (h' : bm_is n m' (fun j => gr_R n (fun x y => 0 < ch_sw w x y) (fun _ => False) i (n - 1) j ∧ gr_R n (fun x y => 0 < ch_sw w x y) (fun _ => False) j (n - 1) i)) (hp : post (nI m')) : wpY_classSet post (nI n, fa, fb, a, up, dn, op, tp, bt, nt, nb) (nI i) := by
  have h5 := c.1.2.1
  obtain ⟨r, hr⟩ := bm_exists n (gr_R n (fun x y => 0 < ch_sw w x y) (fun _ => False) i (n - 1))
  refine loop_0 (fun f j (s : Int32) => wY_classSet_4 post (nI i) (nI n) fa fb a up dn op tp bt nt nb f s (nI j)) (fun k s => ∃ acc, s = nI acc ∧ bm_is n acc (fun j => j < k ∧ gr_R n (fun x y => 0 < ch_sw w x y) (fun _ => False) i (n - 1) j ∧ gr_R n (fun x y => 0 < ch_sw w x y) (fun _ => False) j (n - 1) i)) n 0 ?_ ?_ ?_
  · exact ⟨0, rfl, bm_iff (bm_zero n) (fun j _ => ⟨fun z => z.elim, fun z => by omega⟩)⟩
  · rintro f s ⟨acc, rfl, ha⟩
    refine br_t (nI_le (Nat.le_refl n) (by omega)) ?_
    rw [bm_ext ha h' (fun j hj => ⟨fun q => q.2, fun q => ⟨hj, q⟩⟩)]
    exact hp
  · rintro f j s hj ⟨acc, rfl, ha⟩ ih
    refine br_f (nI_ge hj (by omega)) ?_
    refine ym_reached c hi hr ?_
    refine ym_in (bm_lt hr h5) (by omega) (fun b => ?_) (fun b => ?_)
    · refine br_f (by decide) ?_
      obtain ⟨q, hq⟩ := bm_exists n (gr_R n (fun x y => 0 < ch_sw w x y) (fun _ => False) j (n - 1))
      refine ym_reached c hj hq ?_
      refine ym_in (bm_lt hq h5) (by omega) (fun b2 => ?_) (fun b2 => ?_)
      · refine br_f (by decide) ?_
        rw [bm_shl j (by omega), bm_or]
        refine nm_e (nm_r (nI_1 j) (ih _ ⟨_, rfl, bm_iff (bm_or2 ha (bm_one hj)) (fun y hy => ?_)⟩))
        constructor
        · rintro (z | z)
          · exact ⟨by omega, z.2⟩
          · rw [z]; exact ⟨by omega, (hr.2 j hj).mp b, (hq.2 i hi).mp b2⟩
        · rintro ⟨z, r⟩
          by_cases e : y = j
          · exact .inr e
          · exact .inl ⟨by omega, r⟩
      · refine br_t rfl (nm_r (nI_1 j) (ih _ ⟨acc, rfl, bm_iff ha (fun y hy => ⟨fun z => ⟨by omega, z.2⟩, fun z => ⟨?_, z.2⟩⟩)⟩))
        have : y ≠ j := fun e => by
          have := (hq.2 i hi).mpr (e ▸ z.2.2)
          rw [b2] at this; cases this
        omega
    · refine br_t rfl (nm_r (nI_1 j) (ih _ ⟨acc, rfl, bm_iff ha (fun y hy => ⟨fun z => ⟨by omega, z.2⟩, fun z => ⟨?_, z.2⟩⟩)⟩))
      have : y ≠ j := fun e => by
        have := (hr.2 j hj).mpr (e ▸ z.2.1)
        rw [b] at this; cases this
      omega
theorem ym_closed {post : Int32 → Prop} (c : cr_Y n w a) {i : Nat} (hi : i < n) (h1 : gr_cl n w i → post 1) (h0 : ¬ gr_cl n w i → post 0) : wpY_isClosed post (nI n, fa, fb, a, up, dn, op, tp, bt, nt, nb) (nI i) := by
  have h5 := c.1.2.1
  obtain ⟨r, hr⟩ := bm_exists n (gr_R n (fun x y => 0 < ch_sw w x y) (fun _ => False) i (n - 1))
  obtain ⟨k, hk⟩ := bm_exists n (fun j => gr_R n (fun x y => 0 < ch_sw w x y) (fun _ => False) i (n - 1) j ∧ gr_R n (fun x y => 0 < ch_sw w x y) (fun _ => False) j (n - 1) i)
  unfold wpY_isClosed
  dsimp only
  refine ym_reached c hi hr (ym_class c hi hk ?_)
  have d := bm_diff h5 hr hk
  have lt := bm_lt d h5
  rw [bm_not r (bm_lt hr h5) k (bm_lt hk h5)]
  have key : gr_cl n w i ↔ ¬ ∃ j, j < n ∧ gr_R n (fun x y => 0 < ch_sw w x y) (fun _ => False) i (n - 1) j ∧ ¬ (gr_R n (fun x y => 0 < ch_sw w x y) (fun _ => False) i (n - 1) j ∧ gr_R n (fun x y => 0 < ch_sw w x y) (fun _ => False) j (n - 1) i) := by
    constructor
    · rintro h ⟨j, hj, r, no⟩
      exact no ⟨r, (gr_to hi hj (by omega)).mp (h j hj r)⟩
    · intro h j hj r
      apply Classical.byContradiction
      intro no
      exact h ⟨j, hj, r, fun q => no ((gr_to hi hj (by omega)).mpr q.2)⟩
  by_cases z : r &&& (31 ^^^ k) = 0
  · refine br_t (by rw [z]; rfl) (h1 (key.mpr (fun q => ?_)))
    exact (bm_ne0 d).mpr q z
  · refine br_f (fun q => z ((cw_0 (by omega)).mp q)) (h0 (fun q => ?_))
    exact key.mp q ((bm_ne0 d).mp z)
end
