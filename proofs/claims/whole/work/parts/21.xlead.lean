/-! the states that lead to a goal -/
section
variable {n : Nat} {w : Nat → Nat} {a su : Nat → Int32} {sy ov un : Nat → Int64}
theorem xm_lead {post : Int32 → Prop} (c : cr_X n w a su) {g b m' : Nat} {G B : Nat → Prop} (hg : bm_is n g G) (hb : bm_is n b B)
    (h' : bm_is n m' (fun i => gr_L n (fun x y => 0 < ch_sw w x y) G B (n - 1) i ∧ ¬ G i)) (hp : post (nI m')) : wpX_leadingTo post (nI n, a, su, sy, ov, un) (nI g) (nI b) := by
  have h5 := c.1.2.1
  have h1 := c.1.1
  refine pk_loop (fun f k (s : Int32) => wX_leadingTo_5 post (nI g) (nI b) (nI n) a su sy ov un f s (nI k))
    (fun k s => 1 ≤ k ∧ ∃ acc, s = nI acc ∧ acc < 2 ^ n ∧ (∀ i, i < n → acc.testBit i = true → ∃ m, gr_L n (fun x y => 0 < ch_sw w x y) G B m i) ∧ ∀ i, i < n → gr_L n (fun x y => 0 < ch_sw w x y) G B (k - 1) i → acc.testBit i = true) n 1 (nI g) (by omega) ?_ ?_ ?_
  · exact ⟨by omega, g, rfl, hg.1, fun i hi t => ⟨0, (hg.2 i hi).mp t⟩, fun i hi l => (hg.2 i hi).mpr l⟩
  · rintro f s ⟨_, acc, rfl, hl, so, co⟩
    refine br_t (nI_le (Nat.le_refl n) (by omega)) ?_
    have ha : bm_is n acc (gr_L n (fun x y => 0 < ch_sw w x y) G B (n - 1)) := by
      refine ⟨hl, fun i hi => ⟨fun t => ?_, co i hi⟩⟩
      obtain ⟨m, l⟩ := so i hi t
      exact gr_L_stab m i hi l
    rw [bm_not acc (bm_lt ha h5) g (bm_lt hg h5), bm_ext (bm_diff h5 ha hg) h' (fun _ _ => Iff.rfl)]
    exact hp
  · rintro f k s hk ⟨k1, acc, rfl, hl, so, co⟩ ih
    refine br_f (nI_ge hk (by omega)) ?_
    refine loop_0 (fun h i (s : Int32) => wX_leadingTo_17 post (wX_leadingTo_5 post (nI g) (nI b) (nI n) a su sy ov un f) (nI g) (nI b) (nI k) (nI n) a su sy ov un h s (nI i))
      (fun i s => ∃ ac, s = nI ac ∧ ac < 2 ^ n ∧ (∀ x, acc.testBit x = true → ac.testBit x = true) ∧ (∀ i, i < n → ac.testBit i = true → ∃ m, gr_L n (fun x y => 0 < ch_sw w x y) G B m i) ∧ ∀ x, x < i → gr_L n (fun x y => 0 < ch_sw w x y) G B k x → ac.testBit x = true) n (nI acc) ?_ ?_ ?_
    · exact ⟨acc, rfl, hl, fun _ t => t, so, fun x hx => absurd hx (by omega)⟩
    · rintro h s ⟨ac, rfl, hl2, _, so2, co2⟩
      exact br_t (nI_le (Nat.le_refl n) (by omega)) (nm_r (nI_1 k) (ih _ ⟨by omega, ac, rfl, hl2, so2, fun i hi l => co2 i hi (by rwa [show k + 1 - 1 = k by omega] at l)⟩))
    · rintro h i s hi ⟨ac, rfl, hl2, sub, so2, co2⟩ ih2
      refine br_f (nI_ge hi (by omega)) ?_
      rw [bm_shl i (by omega)]
      obtain ⟨m, hm⟩ := bm_exists n (fun j => ∃ x, x < n ∧ (2 ^ i).testBit x = true ∧ 0 < ch_sw w x j)
      have hm2 : bm_is n m (fun j => 0 < ch_sw w i j) := bm_iff hm (fun j _ => ⟨fun ⟨x, hx, t, q⟩ => by
        have : x = i := ((bm_one hi).2 x hx).mp t
        rw [this] at q; exact q, fun q => ⟨i, hi, ((bm_one hi).2 i hi).mpr rfl, q⟩⟩)
      have hac : bm_is n ac (fun j => ac.testBit j = true) := ⟨hl2, fun _ _ => Iff.rfl⟩
      have i32 : 2 ^ i < 32 := bm_lt (bm_one hi) h5
      obtain ⟨k', hk'⟩ : ∃ k', k = k' + 1 := ⟨k - 1, by omega⟩
      refine xm_one c i32 hm ?_
      refine xm_has (bm_lt hb h5) (by omega) (fun t => ?_) (fun t => ?_)
      · refine br_f (by decide) (nm_r (nI_1 i) (ih2 _ ⟨ac, rfl, hl2, sub, so2, fun x hx l => ?_⟩))
        by_cases e : x = i
        · subst e
          rw [hk'] at l
          rcases l with l | ⟨nb, _⟩
          · exact sub x (co x hi (by rwa [hk']))
          · exact absurd ((hb.2 x hi).mp t) nb
        · exact co2 x (by omega) l
      · have nb : ¬ B i := fun z => by rw [(hb.2 i hi).mpr z] at t; cases t
        refine br_t rfl ?_
        rw [bm_and, bm_or]
        have ma := bm_and2 hm2 hac
        by_cases z : m &&& ac = 0
        · refine br_t (by rw [z]; rfl) (nm_r (nI_1 i) (ih2 _ ⟨ac, rfl, hl2, sub, so2, fun x hx l => ?_⟩))
          by_cases e : x = i
          · subst e
            rw [hk'] at l
            rcases l with l | ⟨_, j, hj, q, l⟩
            · exact sub x (co x hi (by rwa [hk']))
            · exfalso
              have := (bm_ne0 ma).mpr ⟨j, hj, q, sub j (co j hj (by rwa [hk']))⟩
              exact this z
          · exact co2 x (by omega) l
        · have lt : m &&& ac < 2 ^ 31 := Nat.lt_trans (bm_lt ma h5) (by omega)
          refine br_f (fun q => z ((cw_0 lt).mp q)) (nm_e (nm_r (nI_1 i) (ih2 _ ⟨_, rfl, (bm_or2 hac (bm_one hi)).1, fun x hx => ?_, fun x hx q => ?_, fun x hx l => ?_⟩)))
          · rw [Nat.testBit_or, sub x hx]; rfl
          · rcases ((bm_or2 hac (bm_one hi)).2 x hx).mp q with q | q
            · exact so2 x hx q
            · obtain ⟨j, hj, q1, q2⟩ := (bm_ne0 ma).mp z
              obtain ⟨m, l⟩ := so2 j hj q2
              exact ⟨m + 1, .inr ⟨by rw [q]; exact nb, j, hj, by rw [q]; exact q1, l⟩⟩
          · by_cases e : x = i
            · rw [e]; exact ((bm_or2 hac (bm_one hi)).2 i hi).mpr (.inr rfl)
            · rw [Nat.testBit_or, co2 x (by omega) l]; rfl
/-- whether the states that go to and fro with a state are closed -/
def gr_cl (n : Nat) (w : Nat → Nat) (i : Nat) : Prop := ∀ j, j < n → gr_R n (fun x y => 0 < ch_sw w x y) (fun _ => False) i (n - 1) j → gr_L n (fun x y => 0 < ch_sw w x y) (fun y => y = i) (fun _ => False) (n - 1) j
theorem xm_closed {post : Int32 → Prop} (c : cr_X n w a su) {i : Nat} (hi : i < n) (h1 : gr_cl n w i → post 1) (h0 : ¬ gr_cl n w i → post 0) : wpX_isInClosedClass post (nI n, a, su, sy, ov, un) (nI i) := by
  have h5 := c.1.2.1
  obtain ⟨m, hm⟩ := bm_exists n (gr_R n (fun x y => 0 < ch_sw w x y) (fun _ => False) i (n - 1))
  obtain ⟨l, hl⟩ := bm_exists n (fun j => gr_L n (fun x y => 0 < ch_sw w x y) (fun y => y = i) (fun _ => False) (n - 1) j ∧ ¬ j = i)
  refine nm_r (bm_shl i (by omega)) ?_
  refine xm_reached c hi hm ?_
  have o1 := bm_one hi
  have d1 := bm_diff h5 hm o1
  have d2 := bm_diff h5 d1 hl
  rw [bm_not m (bm_lt hm h5) _ (bm_lt o1 h5)]
  refine nm_e (xm_lead (b := 0) c o1 (bm_zero n) hl ?_)
  rw [bm_not _ (bm_lt d1 h5) l (bm_lt hl h5)]
  have lt := bm_lt d2 h5
  have key : gr_cl n w i ↔ ¬ ∃ j, j < n ∧ (gr_R n (fun x y => 0 < ch_sw w x y) (fun _ => False) i (n - 1) j ∧ ¬ j = i) ∧ ¬ (gr_L n (fun x y => 0 < ch_sw w x y) (fun y => y = i) (fun _ => False) (n - 1) j ∧ ¬ j = i) := by
    constructor
    · rintro h ⟨j, hj, ⟨r, e⟩, no⟩
      exact no ⟨h j hj r, e⟩
    · intro h j hj r
      by_cases e : j = i
      · rw [e]; exact gr_L_up (Nat.zero_le _) (show gr_L n _ _ _ 0 i from rfl)
      · apply Classical.byContradiction
        intro no
        exact h ⟨j, hj, ⟨r, e⟩, fun q => no q.1⟩
  by_cases z : (m &&& (31 ^^^ 2 ^ i)) &&& (31 ^^^ l) = 0
  · refine br_t (by rw [z]; rfl) (h1 (key.mpr (fun q => ?_)))
    exact (bm_ne0 d2).mpr q z
  · refine br_f (fun q => z ((cw_0 (by omega)).mp q)) (h0 (fun q => ?_))
    exact key.mp q ((bm_ne0 d2).mp z)
end
