/-! reversible -/
def rv_C (n : Nat) (w : Nat → Nat) (K : Nat → Prop) (o u st : Nat → Nat) : Prop :=
  (∀ i, i < n → K i → 1 ≤ o i ∧ o i ≤ 9 ^ (gr_cnt K n - 1) ∧ 1 ≤ u i ∧ u i ≤ 9 ^ (gr_cnt K n - 1) ∧ st i < n) ∧
  (∀ p q, rv_b n w p q → ∀ i, i < n → K i → p i * (u i : Int) * q (st i) = p (st i) * (o i : Int) * q i) ∧
  (∀ i j, i < n → j < n → K i → K j → rv_e w i j → st i = st j) ∧
  (∀ i j, i < n → j < n → K i → rv_e w i j → K j)
theorem rv_CI {n : Nat} {w : Nat → Nat} {K : Nat → Prop} {o u st : Nat → Nat} (h : rv_C n w K o u st) {s : Nat} (hs : s < n) (ns : ¬ K s) : rv_I n w K s (fun i => K i ∨ i = s) (rv_u o s 1) (rv_u u s 1) (rv_u st s s) :=
  rv_start hs ns h.1 h.2.1 h.2.2.1 h.2.2.2
theorem rv_IC {n : Nat} {w : Nat → Nat} {K : Nat → Prop} {s0 : Nat} {kn : Nat → Prop} {o u st : Nat → Nat} (I : rv_I n w K s0 kn o u st) (all : ∀ i, i < n → rv_L n w K s0 (n - 1) i → kn i) : rv_C n w kn o u st :=
  ⟨I.1, I.2.1, I.2.2.1, rv_closed I all⟩
theorem rv_C0 (n : Nat) (w : Nat → Nat) (o u st : Nat → Nat) : rv_C n w (fun _ => False) o u st :=
  ⟨fun _ _ z => z.elim, fun _ _ _ _ _ z => z.elim, fun _ _ _ _ z => z.elim, fun _ _ _ _ z => z.elim⟩
theorem rv_9 {n : Nat} (h5 : n ≤ 5) (K : Nat → Prop) : 9 ^ (gr_cnt K n - 1) ≤ 6561 := by
  have := gr_cnt_le K n
  exact Nat.pow_le_pow_right (n := 9) (i := gr_cnt K n - 1) (j := 4) (by decide) (by omega)
theorem rv_bits (m j : Nat) : (fun x => (m ||| 2 ^ j).testBit x = true) = fun x => m.testBit x = true ∨ x = j := by
  funext x
  apply propext
  rw [Nat.testBit_or, Nat.testBit_two_pow, Bool.or_eq_true, decide_eq_true_eq]
  constructor
  · rintro (h | h)
    · exact .inl h
    · exact .inr h.symm
  · rintro (h | h)
    · exact .inl h
    · exact .inr h.symm
def xr_A (n : Nat) (m : Nat) (ov un : Nat → Int64) (o u : Nat → Nat) : Prop := ∀ i, i < n → m.testBit i = true → ov i = Int64.ofInt (o i : Int) ∧ un i = Int64.ofInt (u i : Int)
section
variable {n : Nat} {w : Nat → Nat} {a su : Nat → Int32} {sy ov un : Nat → Int64}
theorem xm_balFrom {post : Int32 → SX → Prop} (c : cr_X n w a su) {K : Nat → Prop} {s0 : Nat} (hs0 : s0 < n) {m : Nat} (hm : m < 2 ^ n) {o u st : Nat → Nat} (I : rv_I n w K s0 (fun i => m.testBit i = true) o u st) (A : xr_A n m ov un o u) (hK : ∀ i, i < n → K i ∨ i = s0 → m.testBit i = true)
    (hp : ∀ m' ov' un', m' < 2 ^ n → (∀ i, m.testBit i = true → m'.testBit i = true) → (∃ o' u' st', rv_C n w (fun i => m'.testBit i = true) o' u' st' ∧ xr_A n m' ov' un' o' u') → post (nI m') (nI n, a, su, sy, ov', un')) : wpX_balanceFrom post (nI n, a, su, sy, ov, un) (nI m) := by
  have h5 := c.1.2.1
  have h1 := c.1.1
  refine pk_loop (fun f k (s : Int32 × (Nat → Int64) × (Nat → Int64)) => wX_balanceFrom_4 post (nI n) f s.1 (nI k) a su sy s.2.1 s.2.2)
    (fun k s => 1 ≤ k ∧ ∃ m1, s.1 = nI m1 ∧ m1 < 2 ^ n ∧ (∀ i, m.testBit i = true → m1.testBit i = true) ∧ (∃ o1 u1 st1, rv_I n w K s0 (fun i => m1.testBit i = true) o1 u1 st1 ∧ xr_A n m1 s.2.1 s.2.2 o1 u1) ∧ ∀ i, i < n → rv_L n w K s0 (k - 1) i → m1.testBit i = true) n 1 (nI m, ov, un) (by omega) ?_ ?_ ?_
  · exact ⟨by omega, m, rfl, hm, fun _ t => t, ⟨o, u, st, I, A⟩, fun i hi l => hK i hi l⟩
  · rintro f ⟨s1, ov1, un1⟩ ⟨_, m1, rfl, hl, sub, ⟨o1, u1, st1, I1, A1⟩, co⟩
    exact br_t (nI_le (Nat.le_refl n) (by omega)) (hp m1 ov1 un1 hl sub ⟨o1, u1, st1, rv_IC I1 co, A1⟩)
  · rintro f k ⟨s1, ov1, un1⟩ hk ⟨k1, m1, rfl, hl, sub, ⟨o1, u1, st1, I1, A1⟩, co⟩ ih
    refine br_f (nI_ge hk (by omega)) ?_
    dsimp only at A1 ⊢
    refine loop_0 (fun f' i (s : Int32 × (Nat → Int64) × (Nat → Int64)) => wX_balanceFrom_15 post (wX_balanceFrom_4 post (nI n) f) (nI k) (nI n) f' s.1 (nI i) a su sy s.2.1 s.2.2)
      (fun i s => ∃ m2, s.1 = nI m2 ∧ m2 < 2 ^ n ∧ (∀ x, m1.testBit x = true → m2.testBit x = true) ∧ (∃ o2 u2 st2, rv_I n w K s0 (fun i => m2.testBit i = true) o2 u2 st2 ∧ xr_A n m2 s.2.1 s.2.2 o2 u2) ∧ ∀ x y, x < i → y < n → m1.testBit x = true → rv_e w x y → m2.testBit y = true) n (nI m1, ov1, un1) ?_ ?_ ?_
    · exact ⟨m1, rfl, hl, fun _ t => t, ⟨o1, u1, st1, I1, A1⟩, fun x y hx => absurd hx (by omega)⟩
    · rintro f' ⟨s2, ov2, un2⟩ ⟨m2, rfl, hl2, sub2, ex2, co2⟩
      refine br_t (nI_le (Nat.le_refl n) (by omega)) (nm_r (nI_1 k) (ih (nI m2, ov2, un2) ⟨by omega, m2, rfl, hl2, fun i t => sub2 i (sub i t), ex2, fun i hi l => ?_⟩))
      rw [show k + 1 - 1 = (k - 1) + 1 by omega] at l
      rcases l with l | ⟨_, x, hx, e, l⟩
      · exact sub2 i (co i hi l)
      · exact co2 x i hx hi (co x hx l) e
    · rintro f' i ⟨s2, ov2, un2⟩ hi ⟨m2, rfl, hl2, sub2, ⟨o2, u2, st2, I2, A2⟩, co2⟩ ih2
      refine br_f (nI_ge hi (by omega)) ?_
      dsimp only at A2 ⊢
      refine loop_0 (fun f'' j (s : Int32 × (Nat → Int64) × (Nat → Int64)) => wX_balanceFrom_27 post (wX_balanceFrom_4 post (nI n) f) (wX_balanceFrom_15 post (wX_balanceFrom_4 post (nI n) f) (nI k) (nI n) f') (nI k) (nI i) (nI n) f'' s.1 (nI j) a su sy s.2.1 s.2.2)
        (fun j s => ∃ m3, s.1 = nI m3 ∧ m3 < 2 ^ n ∧ (∀ x, m2.testBit x = true → m3.testBit x = true) ∧ (∃ o3 u3 st3, rv_I n w K s0 (fun i => m3.testBit i = true) o3 u3 st3 ∧ xr_A n m3 s.2.1 s.2.2 o3 u3) ∧ ∀ y, y < j → m1.testBit i = true → rv_e w i y → m3.testBit y = true) n (nI m2, ov2, un2) ?_ ?_ ?_
      · exact ⟨m2, rfl, hl2, fun _ t => t, ⟨o2, u2, st2, I2, A2⟩, fun y hy => absurd hy (by omega)⟩
      · rintro f'' ⟨s3, ov3, un3⟩ ⟨m3, rfl, hl3, sub3, ex3, co3⟩
        refine br_t (nI_le (Nat.le_refl n) (by omega)) (nm_r (nI_1 i) (ih2 (nI m3, ov3, un3) ⟨m3, rfl, hl3, fun x t => sub3 x (sub2 x t), ex3, fun x y hx hy t e => ?_⟩))
        by_cases q : x = i
        · rw [q] at t e; exact co3 y hy t e
        · exact sub3 y (co2 x y (by omega) hy t e)
      · rintro f'' j ⟨s3, ov3, un3⟩ hj ⟨m3, rfl, hl3, sub3, ⟨o3, u3, st3, I3, A3⟩, co3⟩ ih3
        dsimp only at A3
        have m32 : m3 < 32 := Nat.lt_of_lt_of_le hl3 (rf_p2 h5)
        have w1 := c.1.2.2.1 (5 * i + j) (by omega)
        have w2 := c.1.2.2.1 (5 * j + i) (by omega)
        have ei : (nI i).toNatClampNeg = i := nI_clamp (by omega)
        have ej : (nI j).toNatClampNeg = j := nI_clamp (by omega)
        have vi : vp_in (nI i) 5 := vp_in_nI (by omega) (by decide)
        have vj : vp_in (nI j) 5 := vp_in_nI (by omega) (by decide)
        refine br_f (nI_ge hj (by omega)) ?_
        dsimp only
        rw [ix_5, ix_5, nI_clamp (by omega : 5 * i + j < 2 ^ 31), nI_clamp (by omega : 5 * j + i < 2 ^ 31), c.2.1 _ (by omega), c.2.1 _ (by omega)]
        refine ⟨vp_in_nI (by omega) (by decide), nm_e ⟨vp_in_nI (by omega) (by decide), nm_e ?_⟩⟩
        have keep : (m1.testBit i = true → rv_e w i j → m3.testBit j = true) → ∀ y, y < j + 1 → m1.testBit i = true → rv_e w i y → m3.testBit y = true := by
          intro h y hy t e
          by_cases q : y = j
          · rw [q] at e ⊢; exact h t e
          · exact co3 y (by omega) t e
        have go : (m1.testBit i = true → rv_e w i j → m3.testBit j = true) → wX_balanceFrom_27 post (wX_balanceFrom_4 post (nI n) f) (wX_balanceFrom_15 post (wX_balanceFrom_4 post (nI n) f) (nI k) (nI n) f') (nI k) (nI i) (nI n) f'' (nI m3) (nI (j + 1)) a su sy ov3 un3 :=
          fun h => ih3 (nI m3, ov3, un3) ⟨m3, rfl, hl3, sub3, ⟨o3, u3, st3, I3, A3⟩, keep h⟩
        refine xm_has m32 (by omega) (fun ti => ?_) (fun ti => ?_)
        · refine br_f (by decide) (xm_has m32 (by omega) (fun tj => ?_) (fun tj => ?_))
          · exact br_f (by decide) (nm_r (nI_1 j) (go (fun _ _ => tj)))
          · refine br_t rfl ?_
            rcases Nat.eq_zero_or_pos (w (5 * i + j)) with z | z
            · exact br_t ((cw_le0 (by omega)).mpr z) (nm_r (nI_1 j) (go (fun _ e => by have := e.1; omega)))
            · refine br_f (fun q => by have := (cw_le0 (by omega)).mp q; omega) ?_
              rcases Nat.eq_zero_or_pos (w (5 * j + i)) with y | y
              · exact br_t ((cw_le0 (by omega)).mpr y) (nm_r (nI_1 j) (go (fun _ e => by have := e.2; omega)))
              · refine br_f (fun q => by have := (cw_le0 (by omega)).mp q; omega) ?_
                have I4 := rv_add c.1.2.2.1 h5 I3 hi hj ti (by rw [tj]; decide) ⟨z, y⟩
                rw [ei, ej, (A3 i hi ti).1, (A3 i hi ti).2, cv_pos (by omega), cv_pos (by omega), ← Int64.ofInt_mul, ← Int64.ofInt_mul, bm_shl j (by omega), bm_or]
                refine ⟨vi, vj, nm_e ⟨vi, vj, nm_e (nm_e (nm_r (nI_1 j) (ih3 (nI (m3 ||| 2 ^ j), vp_updL ov3 j (Int64.ofInt ((o3 i : Int) * (w (5 * i + j) : Int))), vp_updL un3 j (Int64.ofInt ((u3 i : Int) * (w (5 * j + i) : Int)))) ⟨m3 ||| 2 ^ j, rfl, Nat.or_lt_two_pow hl3 (bm_one hj).1, fun x t => by rw [Nat.testBit_or, sub3 x t]; rfl, ⟨_, _, _, by rw [rv_bits]; exact I4, ?_⟩, ?_⟩)))⟩⟩
                · intro x hx t
                  dsimp only
                  have t' : m3.testBit x = true ∨ x = j := (congrFun (rv_bits m3 j) x).mp t
                  by_cases q : x = j
                  · rw [q, pk_uLs, pk_uLs, rv_us, rv_us, Int.natCast_mul, Int.natCast_mul]
                    exact ⟨rfl, rfl⟩
                  · rw [pk_uLn q, pk_uLn q, rv_un _ _ q, rv_un _ _ q]
                    exact A3 x hx (t'.resolve_right q)
                · intro y' hy t e
                  by_cases q : y' = j
                  · rw [q]; exact (congrFun (rv_bits m3 j) j).mpr (.inr rfl)
                  · rw [Nat.testBit_or, co3 y' (by omega) t e]; rfl
        · refine br_t rfl (nm_r (nI_1 j) (go (fun t _ => ?_)))
          rw [sub3 i (sub2 i t)] at ti; cases ti
theorem xm_bal {post : SX → Prop} (c : cr_X n w a su) (hp : ∀ ov' un', (∃ o u st, rv_C n w (fun _ => True) o u st ∧ ∀ i, i < n → ov' i = Int64.ofInt (o i : Int) ∧ un' i = Int64.ofInt (u i : Int)) → post (nI n, a, su, sy, ov', un')) : wpX_balanceNeighbours post (nI n, a, su, sy, ov, un) := by
  have h5 := c.1.2.1
  refine loop_0 (fun f s (q : Int32 × (Nat → Int64) × (Nat → Int64)) => wX_balanceNeighbours_4 post f q.1 (nI s) (nI n) a su sy q.2.1 q.2.2)
    (fun s q => ∃ m, q.1 = nI m ∧ m < 2 ^ n ∧ (∀ x, x < s → m.testBit x = true) ∧ ∃ o u st, rv_C n w (fun i => m.testBit i = true) o u st ∧ xr_A n m q.2.1 q.2.2 o u) n (0, ov, un) ?_ ?_ ?_
  · refine ⟨0, rfl, Nat.two_pow_pos n, fun x hx => absurd hx (by omega), fun _ => 0, fun _ => 0, fun _ => 0, ?_, fun i _ t => by simp at t⟩
    have e : (fun i => (0 : Nat).testBit i = true) = fun _ => False := by funext i; simp
    rw [e]; exact rv_C0 n w _ _ _
  · rintro f ⟨q, ov, un⟩ ⟨m, rfl, hl, all, o, u, st, C, A⟩
    refine br_t (nI_le (Nat.le_refl n) (by omega)) (hp ov un ⟨o, u, st, ?_, fun i hi => A i hi (all i hi)⟩)
    obtain ⟨c1, c2, c3, c4⟩ := C
    have cn : gr_cnt (fun i => m.testBit i = true) n ≤ gr_cnt (fun _ => True) n := gr_cnt_mono (fun _ _ _ => trivial)
    have pw : 9 ^ (gr_cnt (fun i => m.testBit i = true) n - 1) ≤ 9 ^ (gr_cnt (fun _ => True) n - 1) := Nat.pow_le_pow_right (by decide) (by omega)
    refine ⟨fun i hi _ => ?_, fun p q b i hi _ => c2 p q b i hi (all i hi), fun i j hi hj _ _ e => c3 i j hi hj (all i hi) (all j hj) e, fun _ _ _ _ _ _ => trivial⟩
    have := c1 i hi (all i hi)
    omega
  · rintro f s ⟨q, ov, un⟩ hs ⟨m, rfl, hl, all, o, u, st, C, A⟩ ih
    dsimp only at A
    have m32 : m < 32 := Nat.lt_of_lt_of_le hl (rf_p2 h5)
    have es : (nI s).toNatClampNeg = s := nI_clamp (by omega)
    have vs : vp_in (nI s) 5 := vp_in_nI (by omega) (by decide)
    refine br_f (nI_ge hs (by omega)) ?_
    dsimp only
    refine xm_has m32 (by omega) (fun t => ?_) (fun t => ?_)
    · refine br_f (by decide) (nm_r (nI_1 s) (ih (nI m, ov, un) ⟨m, rfl, hl, fun x hx => ?_, o, u, st, C, A⟩))
      by_cases e : x = s
      · rw [e]; exact t
      · exact all x (by omega)
    · refine br_t rfl ⟨vs, nm_e ⟨vs, nm_e ?_⟩⟩
      rw [es, bm_shl s (by omega), bm_or]
      have I0 := rv_CI C hs (by rw [t]; decide)
      refine xm_balFrom (m := m ||| 2 ^ s) (K := fun i => m.testBit i = true) (s0 := s) c hs (Nat.or_lt_two_pow hl (bm_one hs).1) (by rw [rv_bits]; exact I0) ?_ (fun i _ h => (congrFun (rv_bits m s) i).mpr h) (fun m' ov' un' hl' sub ex => ?_)
      · intro x hx t'
        have t'' : m.testBit x = true ∨ x = s := (congrFun (rv_bits m s) x).mp t'
        by_cases q : x = s
        · rw [q, pk_uLs, pk_uLs, rv_us, rv_us]; exact ⟨rfl, rfl⟩
        · rw [pk_uLn q, pk_uLn q, rv_un _ _ q, rv_un _ _ q]
          exact A x hx (t''.resolve_right q)
      · dsimp only
        obtain ⟨o', u', st', C', A'⟩ := ex
        refine nm_r (nI_1 s) (ih (nI m', ov', un') ⟨m', rfl, hl', fun x hx => sub x ?_, o', u', st', C', A'⟩)
        refine (congrFun (rv_bits m s) x).mpr ?_
        by_cases e : x = s
        · exact .inr e
        · exact .inl (all x (by omega))
theorem xm_rev {post : Int32 → SX → Prop} (c : cr_X n w a su) (h1 : (∃ p q, rv_b n w p q) → ∀ ov' un', post 1 (nI n, a, su, sy, ov', un')) (h0 : (¬ ∃ p q, rv_b n w p q) → ∀ ov' un', post 0 (nI n, a, su, sy, ov', un')) : wpX_reversible post (nI n, a, su, sy, ov, un) := by
  have h5 := c.1.2.1
  unfold wpX_reversible
  dsimp only
  refine xm_bal c (fun ov un ⟨o, u, st, C, A⟩ => ?_)
  dsimp only
  obtain ⟨c1, c2, c3, _⟩ := C
  have n9 := rv_9 h5 (fun _ => True)
  have bo : ∀ i, i < n → 1 ≤ o i ∧ o i ≤ 6561 ∧ 1 ≤ u i ∧ u i ≤ 6561 ∧ st i < n := fun i hi => by
    have := c1 i hi trivial
    omega
  refine loop_0 (fun f i (_ : Unit) => wX_reversible_6 post (nI n) a su sy ov un f (nI i)) (fun i _ => ∀ x y, x < i → y < x → (o x : Int) * (u y : Int) * (w (5 * x + y) : Int) = (o y : Int) * (u x : Int) * (w (5 * y + x) : Int)) n () (fun x y hx => absurd hx (by omega)) ?_ ?_
  · intro f _ g
    refine br_t (nI_le (Nat.le_refl n) (by omega)) (h1 ⟨fun i => (o i : Int), fun i => (u i : Int), fun i hi => ⟨by have := bo i hi; show (0 : Int) < (o i : Int); omega, by have := bo i hi; show (0 : Int) < (u i : Int); omega⟩, fun i j hi hj => ?_⟩ ov un)
    rcases Nat.lt_trichotomy i j with q | q | q
    · exact (g j i hj q).symm
    · rw [q]
    · exact g i j hi q
  · intro f i _ hi g ih
    refine br_f (nI_ge hi (by omega)) ?_
    refine loop_0 (fun f' j (_ : Unit) => wX_reversible_16 post (wX_reversible_6 post (nI n) a su sy ov un f) (nI i) (nI n) a su sy ov un f' (nI j)) (fun j _ => ∀ y, y < j → (o i : Int) * (u y : Int) * (w (5 * i + y) : Int) = (o y : Int) * (u i : Int) * (w (5 * y + i) : Int)) i () (fun y hy => absurd hy (by omega)) ?_ ?_
    · intro f' _ g2
      refine br_t (nI_le (Nat.le_refl i) (by omega)) (nm_r (nI_1 i) (ih () (fun x y hx hy => ?_)))
      by_cases q : x = i
      · rw [q] at hy ⊢; exact g2 y hy
      · exact g x y (by omega) hy
    · intro f' j _ hj g2 ih2
      have ei : (nI i).toNatClampNeg = i := nI_clamp (by omega)
      have ej : (nI j).toNatClampNeg = j := nI_clamp (by omega)
      have vi : vp_in (nI i) 5 := vp_in_nI (by omega) (by decide)
      have vj : vp_in (nI j) 5 := vp_in_nI (by omega) (by decide)
      have w1 := c.1.2.2.1 (5 * i + j) (by omega)
      have w2 := c.1.2.2.1 (5 * j + i) (by omega)
      have bi := bo i hi
      have bj := bo j (by omega)
      refine br_f (nI_ge hj (by omega)) ?_
      rw [ix_5, ix_5, nI_clamp (by omega : 5 * i + j < 2 ^ 31), nI_clamp (by omega : 5 * j + i < 2 ^ 31), c.2.1 _ (by omega), c.2.1 _ (by omega), ei, ej, (A i hi).1, (A i hi).2, (A j (by omega)).1, (A j (by omega)).2, cv_pos (by omega), cv_pos (by omega), ← Int64.ofInt_mul, ← Int64.ofInt_mul, ← Int64.ofInt_mul, ← Int64.ofInt_mul]
      have v25 : vp_in (nI (5 * i + j)) 25 := vp_in_nI (by omega) (by decide)
      have v25' : vp_in (nI (5 * j + i)) 25 := vp_in_nI (by omega) (by decide)
      refine ⟨vi, vj, v25, nm_e ⟨vj, vi, v25', nm_e ?_⟩⟩
      have b1 : ((o i : Int) * (u j : Int) * (w (5 * i + j) : Int)).natAbs ≤ 6561 * 6561 * 9 := ba_nm (ba_nm (by omega) (by omega)) (by omega)
      have b2 : ((o j : Int) * (u i : Int) * (w (5 * j + i) : Int)).natAbs ≤ 6561 * 6561 * 9 := ba_nm (ba_nm (by omega) (by omega)) (by omega)
      by_cases e : (o i : Int) * (u j : Int) * (w (5 * i + j) : Int) = (o j : Int) * (u i : Int) * (w (5 * j + i) : Int)
      · refine br_t (by rw [e]) (nm_r (nI_1 j) (ih2 () (fun y hy => ?_)))
        by_cases q : y = j
        · rw [q]; exact e
        · exact g2 y (by omega)
      · refine br_f (fun q => e ((lz_eq (by omega) (by omega)).mp q)) (h0 (fun ⟨p, q, b⟩ => ?_) ov un)
        rcases rv_fin (fun i hi => by have := bo i hi; omega) (fun p q b i hi => c2 p q b i hi trivial) (fun i j hi hj e => c3 i j hi hj trivial trivial e) b hi (show j < n by omega) with z | z
        · exact e (by rw [z.1, z.2]; simp)
        · exact e z.2
end
