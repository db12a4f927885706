/-! reversible: the reference's side -/
def yr_A (n : Nat) (w : Nat → Nat) (kn : Nat → Prop) (tp bt : Nat → Int64) (o u st : Nat → Nat) : Prop :=
  ∀ i, i < n → (kn i → fp_is (tp i) (bt i) ((o i : Int) * (ch_tot w i : Int)) ((u i : Int) * (ch_tot w (st i) : Int))) ∧ (¬ kn i → tp i = 0)
theorem sw_off {n : Nat} {w : Nat → Nat} (ok : ch_ok n w) {i j : Nat} (hi : i < 5) (hj : j < 5) (ne : i ≠ j) : ch_sw w i j = w (5 * i + j) := by
  unfold ch_sw
  by_cases z : ch_W w i = 0
  · rw [if_pos z, if_neg ne]
    unfold ch_W at z
    rcases (by omega : j = 0 ∨ j = 1 ∨ j = 2 ∨ j = 3 ∨ j = 4) with rfl | rfl | rfl | rfl | rfl
    · rw [Nat.add_zero]; omega
    · omega
    · omega
    · omega
    · omega
  · rw [if_neg z]
theorem yr_pos {n : Nat} {w : Nat → Nat} (h5 : n ≤ 5) {K : Nat → Prop} {s0 : Nat} {kn : Nat → Prop} {o u st : Nat → Nat} (I : rv_I n w K s0 kn o u st) {i : Nat} (hi : i < n) (ki : kn i) : 1 ≤ o i ∧ o i ≤ 6561 ∧ 1 ≤ u i ∧ u i ≤ 6561 ∧ st i < n := by
  have := I.1 i hi ki
  have := rv_9 h5 kn
  omega
section
variable {n : Nat} {w : Nat → Nat} {a : Nat → Int32} {fa fb : Int64} {up dn : Nat → Int64} {op : Nat → Int32} {tp bt nt nb : Nat → Int64}
theorem ym_carry {post : SY → Prop} (c : cr_Y n w a) {K : Nat → Prop} {s0 : Nat} {kn : Nat → Prop} {o u st : Nat → Nat} (I : rv_I n w K s0 kn o u st) (A : yr_A n w kn tp bt o u st) {i j : Nat} (hi : i < 5) (hj : j < 5)
    (hp : ∀ fa' fb' tp' bt' (kn' : Nat → Prop), (∀ x, kn x → kn' x) → (i < n → j < n → kn i → rv_e w i j → kn' j) → (∃ o' u' st', rv_I n w K s0 kn' o' u' st' ∧ yr_A n w kn' tp' bt' o' u' st') → post (nI n, fa', fb', a, up, dn, op, tp', bt', nt, nb)) :
    wpY_carry post (nI n, fa, fb, a, up, dn, op, tp, bt, nt, nb) (nI i) (nI j) := by
  have h5 := c.1.2.1
  have no : (i < n → j < n → kn i → rv_e w i j → kn j) → post (nI n, fa, fb, a, up, dn, op, tp, bt, nt, nb) := fun h => hp fa fb tp bt kn (fun _ t => t) h ⟨o, u, st, I, A⟩
  have s38 : (i < n → j < n → kn i → rv_e w i j → kn j) → wY_carry_38 post (nI i) (nI j) (nI n) fa fb a up dn op tp bt nt nb := fun h => br_t rfl (no h)
  unfold wpY_carry
  dsimp only
  rcases Nat.lt_or_ge i n with hin | hin
  · refine br_f (nI_ge hin (by omega)) ?_
    rcases Nat.lt_or_ge j n with hjn | hjn
    · refine br_f (nI_ge hjn (by omega)) (ym_sw c hi hj ?_)
      have s1 := ch_sw_le c.1 hi hj
      have s2 := ch_sw_le c.1 hj hi
      have swpos : ∀ {x y}, x < 5 → y < 5 → 0 < w (5 * x + y) → 0 < ch_sw w x y := by
        intro x y hx hy h
        have W : ch_W w x ≠ 0 := by
          intro z
          unfold ch_W at z
          rcases (by omega : y = 0 ∨ y = 1 ∨ y = 2 ∨ y = 3 ∨ y = 4) with rfl | rfl | rfl | rfl | rfl
          · rw [Nat.add_zero] at h; omega
          · omega
          · omega
          · omega
          · omega
        unfold ch_sw
        rw [if_neg W]; exact h
      rcases Nat.eq_zero_or_pos (ch_sw w i j) with z | z
      · exact br_t ((cw_le0 (by omega)).mpr z) (s38 (fun _ _ _ e => by have := swpos hi hj e.1; omega))
      · refine br_f (fun q => by have := (cw_le0 (by omega)).mp q; omega) (ym_sw c hj hi ?_)
        rcases Nat.eq_zero_or_pos (ch_sw w j i) with y | y
        · exact br_t ((cw_le0 (by omega)).mpr y) (s38 (fun _ _ _ e => by have := swpos hj hi e.2; omega))
        · refine br_f (fun q => by have := (cw_le0 (by omega)).mp q; omega) ?_
          have ei : (nI i).toNatClampNeg = i := nI_clamp (by omega)
          have ej : (nI j).toNatClampNeg = j := nI_clamp (by omega)
          have vi : vp_in (nI i) 5 := vp_in_nI hi (by decide)
          have vj : vp_in (nI j) 5 := vp_in_nI hj (by decide)
          refine br_f (by decide) ⟨vi, ?_⟩
          rw [ei, ej]
          by_cases ki : kn i
          · have pi := yr_pos h5 I hin ki
            have fi := (A i hin).1 ki
            have ti := ch_tot_pos w i
            have tl := ch_tot_le c.1 (i := i) hi
            have ts := ch_tot_pos w (st i)
            have tsl := ch_tot_le c.1 (i := st i) (by omega)
            have oi : 0 < (o i : Int) * (ch_tot w i : Int) := Int.mul_pos (by omega) (by omega)
            have ui : 0 < (u i : Int) * (ch_tot w (st i) : Int) := Int.mul_pos (by omega) (by omega)
            have oib : (o i : Int) * (ch_tot w i : Int) ≤ 6561 * 45 := Int.mul_le_mul (by omega) (by omega) (by omega) (by omega)
            have uib : (u i : Int) * (ch_tot w (st i) : Int) ≤ 6561 * 45 := Int.mul_le_mul (by omega) (by omega) (by omega) (by omega)
            refine br_f (fun q => by have := (fp_zero ui fi).mp q; omega) ⟨vj, ?_⟩
            by_cases kj : kn j
            · have pj := yr_pos h5 I hjn kj
              have tj := ch_tot_pos w j
              have tsj := ch_tot_pos w (st j)
              have oj : 0 < (o j : Int) * (ch_tot w j : Int) := Int.mul_pos (by omega) (by omega)
              have uj : 0 < (u j : Int) * (ch_tot w (st j) : Int) := Int.mul_pos (by omega) (by omega)
              exact br_f (fun q => by have := (fp_zero uj ((A j hjn).1 kj)).mp q; omega) (no (fun _ _ _ _ => kj))
            · have ne : i ≠ j := fun e => kj (e ▸ ki)
              have e1 := sw_off c.1 hi hj ne
              have e2 := sw_off c.1 hj hi (Ne.symm ne)
              have tj := ch_tot_pos w j
              have tjl := ch_tot_le c.1 (i := j) hj
              refine br_t ((A j hjn).2 kj) ⟨vi, vi, ym_sw c hi hj (ym_tot c hi ?_)⟩
              rw [cv_pos (by omega), cv_pos (by omega)]
              have b1 : ((o i : Int) * (ch_tot w i : Int) * (ch_sw w i j : Int)).natAbs ≤ 295245 * 9 := ba_nm (by omega) (by omega)
              have b2 : (u i : Int) * (ch_tot w (st i) : Int) * (ch_tot w i : Int) ≤ 295245 * 45 := Int.mul_le_mul (by omega) (by omega) (by omega) (by omega)
              have b2p : 0 < (u i : Int) * (ch_tot w (st i) : Int) * (ch_tot w i : Int) := Int.mul_pos ui (by omega)
              refine ym_mulS fi ui (by omega) (by omega) (by omega) (by omega) (by omega) (fun x1 y1 f1 => ?_)
              dsimp only
              refine ym_tot c hj (ym_sw c hj hi ?_)
              rw [cv_pos (by omega), cv_pos (by omega)]
              have b3 : ((o i : Int) * (ch_tot w i : Int) * (ch_sw w i j : Int) * (ch_tot w j : Int)).natAbs ≤ 295245 * 9 * 45 := ba_nm b1 (by omega)
              have b4 : (u i : Int) * (ch_tot w (st i) : Int) * (ch_tot w i : Int) * (ch_sw w j i : Int) ≤ 295245 * 45 * 9 := Int.mul_le_mul b2 (by omega) (by omega) (by omega)
              have b4p : 0 < (u i : Int) * (ch_tot w (st i) : Int) * (ch_tot w i : Int) * (ch_sw w j i : Int) := Int.mul_pos b2p (by omega)
              refine ym_mulS f1 b2p (by omega) (by omega) (by omega) (by omega) (by omega) (fun x2 y2 f2 => ?_)
              dsimp only
              have ev : rv_e w i j := ⟨by omega, by omega⟩
              have I2 := rv_add c.1.2.2.1 h5 I hin hjn ki kj ev
              refine ⟨vj, nm_e ⟨vj, nm_e (hp x2 y2 (vp_updL tp j x2) (vp_updL bt j y2) (fun x => kn x ∨ x = j) (fun x t => .inl t) (fun _ _ _ _ => .inr rfl) ⟨_, _, _, I2, ?_⟩)⟩⟩
              intro x hx
              by_cases q : x = j
              · rw [q, pk_uLs, pk_uLs, rv_us, rv_us, rv_us]
                refine ⟨fun _ => ?_, fun z => absurd (.inr rfl) z⟩
                rw [← e1, ← e2]
                refine fp_eq b4p (Int.mul_pos (by rw [Int.natCast_mul]; exact Int.mul_pos (by omega) (by omega)) (by omega)) ?_ f2
                rw [Int.natCast_mul, Int.natCast_mul]
                grind
              · rw [pk_uLn q, pk_uLn q, rv_un _ _ q, rv_un _ _ q, rv_un _ _ q]
                exact ⟨fun z => (A x hx).1 (z.resolve_right q), fun z => (A x hx).2 (fun y => z (.inl y))⟩
          · exact br_t ((A i hin).2 ki) (no (fun _ _ t _ => absurd t ki))
    · exact br_t (nI_le hjn (by omega)) (s38 (fun _ h => absurd h (by omega)))
  · exact br_t (nI_le hin (by omega)) (s38 (fun h => absurd h (by omega)))
theorem ym_balW {post : Int32 → SY → Prop} (c : cr_Y n w a) {o u st : Nat → Nat} (bo : ∀ i, i < n → 1 ≤ o i ∧ o i ≤ 6561 ∧ 1 ≤ u i ∧ u i ≤ 6561 ∧ st i < n)
    (A : ∀ i, i < n → fp_is (tp i) (bt i) ((o i : Int) * (ch_tot w i : Int)) ((u i : Int) * (ch_tot w (st i) : Int))) {i j : Nat} (hi : i < n) (hj : j < n)
    (h1 : (o i : Int) * ((u j : Int) * (ch_tot w (st j) : Int)) * (ch_sw w i j : Int) = (o j : Int) * ((u i : Int) * (ch_tot w (st i) : Int)) * (ch_sw w j i : Int) → ∀ fa' fb', post 1 (nI n, fa', fb', a, up, dn, op, tp, bt, nt, nb))
    (h0 : ¬ (o i : Int) * ((u j : Int) * (ch_tot w (st j) : Int)) * (ch_sw w i j : Int) = (o j : Int) * ((u i : Int) * (ch_tot w (st i) : Int)) * (ch_sw w j i : Int) → ∀ fa' fb', post 0 (nI n, fa', fb', a, up, dn, op, tp, bt, nt, nb)) :
    wpY_balances post (nI n, fa, fb, a, up, dn, op, tp, bt, nt, nb) (nI i) (nI j) := by
  have h5 := c.1.2.1
  have ei : (nI i).toNatClampNeg = i := nI_clamp (by omega)
  have ej : (nI j).toNatClampNeg = j := nI_clamp (by omega)
  have vi : vp_in (nI i) 5 := vp_in_nI (by omega) (by decide)
  have vj : vp_in (nI j) 5 := vp_in_nI (by omega) (by decide)
  have one : ∀ {i j}, i < n → j < n → 0 < (u i : Int) * (ch_tot w (st i) : Int) ∧ 0 < (u i : Int) * (ch_tot w (st i) : Int) * (ch_tot w i : Int) ∧ (u i : Int) * (ch_tot w (st i) : Int) * (ch_tot w i : Int) ≤ 295245 * 45 ∧ ((o i : Int) * (ch_tot w i : Int) * (ch_sw w i j : Int)).natAbs ≤ 295245 * 9 := by
    intro i j hi hj
    have b := bo i hi
    have ti := ch_tot_pos w i
    have tl := ch_tot_le c.1 (i := i) (by omega)
    have ts := ch_tot_pos w (st i)
    have tsl := ch_tot_le c.1 (i := st i) (by omega)
    have s1 := ch_sw_le c.1 (i := i) (j := j) (by omega) (by omega)
    have ui : 0 < (u i : Int) * (ch_tot w (st i) : Int) := Int.mul_pos (by omega) (by omega)
    have oi : 0 < (o i : Int) * (ch_tot w i : Int) := Int.mul_pos (by omega) (by omega)
    have oib : (o i : Int) * (ch_tot w i : Int) ≤ 6561 * 45 := Int.mul_le_mul (by omega) (by omega) (by omega) (by omega)
    have uib : (u i : Int) * (ch_tot w (st i) : Int) ≤ 6561 * 45 := Int.mul_le_mul (by omega) (by omega) (by omega) (by omega)
    exact ⟨ui, Int.mul_pos ui (by omega), Int.mul_le_mul (by omega) (by omega) (by omega) (by omega), ba_nm (by omega) (by omega)⟩
  have Bi := one hi hj
  have Bj := one hj hi
  have tl := ch_tot_le c.1 (i := i) (by omega)
  have tlj := ch_tot_le c.1 (i := j) (by omega)
  have ti := ch_tot_pos w i
  have tj := ch_tot_pos w j
  have s1 := ch_sw_le c.1 (i := i) (j := j) (by omega) (by omega)
  have s2 := ch_sw_le c.1 (i := j) (j := i) (by omega) (by omega)
  unfold wpY_balances
  dsimp only
  rw [ei, ej]
  refine ⟨vi, vi, ym_sw c (by omega) (by omega) (ym_tot c (by omega) ?_)⟩
  rw [cv_pos (by omega), cv_pos (by omega)]
  refine ym_mulS (A i hi) Bi.1 (by omega) (by omega) (by omega) (by omega) (by omega) (fun x1 y1 f1 => ?_)
  dsimp only
  refine ⟨vj, vj, ym_sw c (by omega) (by omega) (ym_tot c (by omega) ?_)⟩
  rw [cv_pos (by omega), cv_pos (by omega)]
  refine ym_mulS (A j hj) Bj.1 (by omega) (by omega) (by omega) (by omega) (by omega) (fun x2 y2 f2 => ?_)
  dsimp only
  have key := fp_uniq Bi.2.1 Bj.2.1 f1 f2
  have tt : 0 < (ch_tot w i : Int) * (ch_tot w j : Int) := Int.mul_pos (by omega) (by omega)
  have conv : (o i : Int) * (ch_tot w i : Int) * (ch_sw w i j : Int) * ((u j : Int) * (ch_tot w (st j) : Int) * (ch_tot w j : Int)) = (o j : Int) * (ch_tot w j : Int) * (ch_sw w j i : Int) * ((u i : Int) * (ch_tot w (st i) : Int) * (ch_tot w i : Int)) ↔ (o i : Int) * ((u j : Int) * (ch_tot w (st j) : Int)) * (ch_sw w i j : Int) = (o j : Int) * ((u i : Int) * (ch_tot w (st i) : Int)) * (ch_sw w j i : Int) := by
    have l1 : (o i : Int) * (ch_tot w i : Int) * (ch_sw w i j : Int) * ((u j : Int) * (ch_tot w (st j) : Int) * (ch_tot w j : Int)) = ((ch_tot w i : Int) * (ch_tot w j : Int)) * ((o i : Int) * ((u j : Int) * (ch_tot w (st j) : Int)) * (ch_sw w i j : Int)) := by grind
    have l2 : (o j : Int) * (ch_tot w j : Int) * (ch_sw w j i : Int) * ((u i : Int) * (ch_tot w (st i) : Int) * (ch_tot w i : Int)) = ((ch_tot w i : Int) * (ch_tot w j : Int)) * ((o j : Int) * ((u i : Int) * (ch_tot w (st i) : Int)) * (ch_sw w j i : Int)) := by grind
    rw [l1, l2]
    exact ⟨fun h => ba_cancel tt h, fun h => by rw [h]⟩
  by_cases ea : x1 = x2
  · by_cases eb : y1 = y2
    · exact br_t ea (br_t eb (h1 (conv.mp (key.mp ⟨ea, eb⟩)) x2 y2))
    · exact br_t ea (br_f eb (h0 (fun q => eb (key.mpr (conv.mpr q)).2) x2 y2))
  · exact br_f ea (h0 (fun q => ea (key.mpr (conv.mpr q)).1) x2 y2)
theorem ym_rounds {J : Int32 → Int32 → Int64 → Int64 → (Nat → Int32) → (Nat → Int64) → (Nat → Int64) → (Nat → Int32) → (Nat → Int64) → (Nat → Int64) → (Nat → Int64) → (Nat → Int64) → Prop} {post : Int32 → SY → Prop} (c : cr_Y n w a) {K : Nat → Prop} {s0 s : Nat} {kn : Nat → Prop} {o u st : Nat → Nat} (I : rv_I n w K s0 kn o u st) (A : yr_A n w kn tp bt o u st) (hK : ∀ i, i < n → K i ∨ i = s0 → kn i)
    (hJ : ∀ fa' fb' tp' bt' (kn' : Nat → Prop), (∀ x, kn x → kn' x) → (∃ o' u' st', rv_C n w kn' o' u' st' ∧ yr_A n w kn' tp' bt' o' u' st') → J (nI (s + 1)) (nI n) fa' fb' a up dn op tp' bt' nt nb) :
    ∃ f, wY_reversible_67 post J (nI s) f 0 (nI n) fa fb a up dn op tp bt nt nb := by
  have h5 := c.1.2.1
  refine loop_0 (fun f t (q : Int64 × Int64 × (Nat → Int64) × (Nat → Int64)) => wY_reversible_67 post J (nI s) f (nI t) (nI n) q.1 q.2.1 a up dn op q.2.2.1 q.2.2.2 nt nb)
    (fun t q => ∃ kn1 kn0 : Nat → Prop, (∀ x, kn x → kn1 x) ∧ (∀ x, kn0 x → kn1 x) ∧ (∃ o1 u1 st1, rv_I n w K s0 kn1 o1 u1 st1 ∧ yr_A n w kn1 q.2.2.1 q.2.2.2 o1 u1 st1) ∧ (∀ i, i < n → rv_L n w K s0 (t / 25) i → kn0 i) ∧ ∀ x y, x < n → y < n → 5 * x + y < t % 25 → kn0 x → rv_e w x y → kn1 y) 125 (fa, fb, tp, bt) ?_ ?_ ?_
  · exact ⟨kn, kn, fun _ t => t, fun _ t => t, ⟨o, u, st, I, A⟩, fun i hi l => hK i hi l, fun x y _ _ h => absurd h (by omega)⟩
  · rintro f ⟨fa, fb, tp, bt⟩ ⟨kn1, kn0, s1, s2, ⟨o1, u1, st1, I1, A1⟩, co, _⟩
    refine br_t (by decide) (nm_r (nI_1 s) (hJ fa fb tp bt kn1 s1 ⟨o1, u1, st1, rv_IC I1 (fun i hi l => s2 i (co i hi ?_)), A1⟩))
    exact gr_L_up (by omega) l
  · rintro f t ⟨fa, fb, tp, bt⟩ ht ⟨kn1, kn0, s1, s2, ⟨o1, u1, st1, I1, A1⟩, co, pr⟩ ih
    dsimp only at A1
    refine br_f (nI_ge (b := 125) ht (by decide)) ⟨by decide, by decide, by decide, ?_⟩
    dsimp only
    rw [ym_r5 (by omega : t < 2 ^ 31), ym_d5 (by omega : t < 2 ^ 31), ym_r5 (by omega : t / 5 < 2 ^ 31)]
    have hi : t / 5 % 5 < 5 := Nat.mod_lt _ (by decide)
    have hj : t % 5 < 5 := Nat.mod_lt _ (by decide)
    have e : t % 25 = 5 * (t / 5 % 5) + t % 5 := by omega
    refine ym_carry c I1 A1 hi hj (fun fa' fb' tp' bt' kn2 k1 k2 ex => ?_)
    dsimp only
    refine nm_r (nI_1 t) (ih (fa', fb', tp', bt') ?_)
    have pr2 : ∀ x y, x < n → y < n → 5 * x + y < t % 25 + 1 → kn0 x → rv_e w x y → kn2 y := by
      intro x y hx hy h t0 ee
      by_cases q : 5 * x + y = t % 25
      · have ex1 : x = t / 5 % 5 := by omega
        have ey1 : y = t % 5 := by omega
        rw [ex1] at hx t0 ee
        rw [ey1] at hy ee ⊢
        exact k2 hx hy (s2 _ t0) ee
      · exact k1 y (pr x y hx hy (by omega) t0 ee)
    by_cases q : t % 25 = 24
    · refine ⟨kn2, kn2, fun x z => k1 x (s1 x z), fun _ z => z, ex, fun i hin l => ?_, fun x y _ _ h => absurd h (by omega)⟩
      rw [show (t + 1) / 25 = t / 25 + 1 by omega] at l
      rcases l with l | ⟨_, x, hx, ee, l⟩
      · exact k1 i (s2 i (co i hin l))
      · exact pr2 x i hx hin (by omega) (co x hx l) ee
    · refine ⟨kn2, kn0, fun x z => k1 x (s1 x z), fun x z => k1 x (s2 x z), ex, fun i hin l => co i hin (by rwa [show (t + 1) / 25 = t / 25 by omega] at l), fun x y hx hy h => pr2 x y hx hy (by omega)⟩
theorem ym_check {post : Int32 → SY → Prop} (c : cr_Y n w a) {o u st : Nat → Nat} (C : rv_C n w (fun _ => True) o u st) (A : ∀ i, i < n → fp_is (tp i) (bt i) ((o i : Int) * (ch_tot w i : Int)) ((u i : Int) * (ch_tot w (st i) : Int)))
    (h1 : (∃ p q, rv_b n w p q) → ∀ fa' fb', post 1 (nI n, fa', fb', a, up, dn, op, tp, bt, nt, nb)) (h0 : (¬ ∃ p q, rv_b n w p q) → ∀ fa' fb', post 0 (nI n, fa', fb', a, up, dn, op, tp, bt, nt, nb)) :
    ∃ f, wY_reversible_99 post f 0 (nI n) fa fb a up dn op tp bt nt nb := by
  have h5 := c.1.2.1
  obtain ⟨c1, c2, c3, _⟩ := C
  have n9 := rv_9 h5 (fun _ => True)
  have bo : ∀ i, i < n → 1 ≤ o i ∧ o i ≤ 6561 ∧ 1 ≤ u i ∧ u i ≤ 6561 ∧ st i < n := fun i hi => by
    have := c1 i hi trivial
    omega
  refine loop_0 (fun f p (q : Int64 × Int64) => wY_reversible_99 post f (nI p) (nI n) q.1 q.2 a up dn op tp bt nt nb)
    (fun p _ => ∀ i j, i < n → j < n → 5 * i + j < p → (o i : Int) * ((u j : Int) * (ch_tot w (st j) : Int)) * (ch_sw w i j : Int) = (o j : Int) * ((u i : Int) * (ch_tot w (st i) : Int)) * (ch_sw w j i : Int)) 25 (fa, fb) (fun i j _ _ h => absurd h (by omega)) ?_ ?_
  · rintro f ⟨fa, fb⟩ g
    refine br_t (by decide) (h1 ⟨fun i => (o i : Int), fun i => (u i : Int) * (ch_tot w (st i) : Int), fun i hi => ⟨?_, ?_⟩, fun i j hi hj => ?_⟩ fa fb)
    · have := bo i hi
      show (0 : Int) < (o i : Int)
      omega
    · have := bo i hi
      have := ch_tot_pos w (st i)
      exact Int.mul_pos (by omega) (by omega)
    · by_cases e : i = j
      · rw [e]
      · have := g i j hi hj (by omega)
        rw [sw_off c.1 (by omega) (by omega) e, sw_off c.1 (by omega) (by omega) (Ne.symm e)] at this
        exact this
  · rintro f p ⟨fa, fb⟩ hp g ih
    have hi : p / 5 < 5 := by omega
    have hj : p % 5 < 5 := Nat.mod_lt _ (by decide)
    have e : p = 5 * (p / 5) + p % 5 := by omega
    refine br_f (nI_ge (b := 25) hp (by decide)) ⟨by decide, nm_r (ym_d5 (by omega : p < 2 ^ 31)) ⟨by decide, nm_r (ym_r5 (by omega : p < 2 ^ 31)) ?_⟩⟩
    have next : (p / 5 < n → p % 5 < n → (o (p / 5) : Int) * ((u (p % 5) : Int) * (ch_tot w (st (p % 5)) : Int)) * (ch_sw w (p / 5) (p % 5) : Int) = (o (p % 5) : Int) * ((u (p / 5) : Int) * (ch_tot w (st (p / 5)) : Int)) * (ch_sw w (p % 5) (p / 5) : Int)) → ∀ i j, i < n → j < n → 5 * i + j < p + 1 → (o i : Int) * ((u j : Int) * (ch_tot w (st j) : Int)) * (ch_sw w i j : Int) = (o j : Int) * ((u i : Int) * (ch_tot w (st i) : Int)) * (ch_sw w j i : Int) := by
      intro h i j hin hjn hl
      by_cases q : 5 * i + j = p
      · have e1 : i = p / 5 := by omega
        have e2 : j = p % 5 := by omega
        rw [e1, e2]
        exact h (by omega) (by omega)
      · exact g i j hin hjn (by omega)
    rcases Nat.lt_or_ge (p / 5) n with hin | hin
    · refine br_f (nI_ge hin (by omega)) ?_
      rcases Nat.lt_or_ge (p % 5) n with hjn | hjn
      · refine br_f (nI_ge hjn (by omega)) (ym_balW c bo A hin hjn (fun ok fa' fb' => ?_) (fun bad fa' fb' => ?_))
        · dsimp only
          exact br_f (by decide) (nm_r (nI_1 p) (ih (fa', fb') (next (fun _ _ => ok))))
        · dsimp only
          refine br_t rfl (h0 (fun ⟨P, Q, b⟩ => bad ?_) fa' fb')
          by_cases eq : p / 5 = p % 5
          · rw [eq]
          · rw [sw_off c.1 hi hj eq, sw_off c.1 hj hi (Ne.symm eq)]
            rcases rv_fin (fun i hi => by have := bo i hi; omega) (fun p q b i hi => c2 p q b i hi trivial) (fun i j hi hj e => c3 i j hi hj trivial trivial e) b hin hjn with z | z
            · rw [z.1, z.2]; simp
            · rw [z.1]
              have l1 : (o (p / 5) : Int) * ((u (p % 5) : Int) * (ch_tot w (st (p % 5)) : Int)) * (w (5 * (p / 5) + p % 5) : Int) = (ch_tot w (st (p % 5)) : Int) * ((o (p / 5) : Int) * (u (p % 5) : Int) * (w (5 * (p / 5) + p % 5) : Int)) := by grind
              rw [l1, z.2]; grind
      · exact br_t (nI_le hjn (by omega)) (nm_r (nI_1 p) (ih (fa, fb) (next (fun _ h => absurd h (by omega)))))
    · exact br_t (nI_le hin (by omega)) (nm_r (nI_1 p) (ih (fa, fb) (next (fun h => absurd h (by omega)))))
theorem ym_rev {post : Int32 → SY → Prop} (c : cr_Y n w a) (h1 : (∃ p q, rv_b n w p q) → ∀ fa' fb' tp' bt', post 1 (nI n, fa', fb', a, up, dn, op, tp', bt', nt, nb)) (h0 : (¬ ∃ p q, rv_b n w p q) → ∀ fa' fb' tp' bt', post 0 (nI n, fa', fb', a, up, dn, op, tp', bt', nt, nb)) : wpY_reversible post (nI n, fa, fb, a, up, dn, op, tp, bt, nt, nb) := by
  have h5 := c.1.2.1
  refine loop_0 (fun f s (q : (Nat → Int64) × (Nat → Int64)) => wY_reversible_2 post (nI n) fa fb f (nI s) a up dn op q.1 q.2 nt nb) (fun s q => ∀ x, x < s → q.1 x = 0) n (tp, bt) (fun x hx => absurd hx (by omega)) ?_ ?_
  · rintro f ⟨tp, bt⟩ g
    refine br_t (nI_le (Nat.le_refl n) (by omega)) ?_
    dsimp only at g ⊢
    refine loop_0 (fun f s (q : Int64 × Int64 × (Nat → Int64) × (Nat → Int64)) => wY_reversible_32 post f (nI s) (nI n) q.1 q.2.1 a up dn op q.2.2.1 q.2.2.2 nt nb)
      (fun s q => ∃ kn : Nat → Prop, (∀ x, x < s → kn x) ∧ ∃ o u st, rv_C n w kn o u st ∧ yr_A n w kn q.2.2.1 q.2.2.2 o u st) n (fa, fb, tp, bt) ?_ ?_ ?_
    · exact ⟨fun _ => False, fun x hx => absurd hx (by omega), fun _ => 0, fun _ => 0, fun _ => 0, rv_C0 n w _ _ _, fun i hi => ⟨fun z => z.elim, fun _ => g i hi⟩⟩
    · rintro f ⟨fa, fb, tp, bt⟩ ⟨kn, all, o, u, st, C, A⟩
      refine br_t (nI_le (Nat.le_refl n) (by omega)) ?_
      dsimp only at A ⊢
      obtain ⟨c1, c2, c3, c4⟩ := C
      have cn : gr_cnt kn n ≤ gr_cnt (fun _ => True) n := gr_cnt_mono (fun _ _ _ => trivial)
      have pw : 9 ^ (gr_cnt kn n - 1) ≤ 9 ^ (gr_cnt (fun _ => True) n - 1) := Nat.pow_le_pow_right (by decide) (by omega)
      refine ym_check c (o := o) (u := u) (st := st) ⟨fun i hi _ => ?_, fun p q b i hi _ => c2 p q b i hi (all i hi), fun i j hi hj _ _ e => c3 i j hi hj (all i hi) (all j hj) e, fun _ _ _ _ _ _ => trivial⟩ (fun i hi => (A i hi).1 (all i hi)) (fun h fa' fb' => h1 h fa' fb' tp bt) (fun h fa' fb' => h0 h fa' fb' tp bt)
      have := c1 i hi (all i hi)
      omega
    · rintro f s ⟨fa, fb, tp, bt⟩ hs ⟨kn, all, o, u, st, C, A⟩ ih
      dsimp only at A
      have es : (nI s).toNatClampNeg = s := nI_clamp (by omega)
      have vs : vp_in (nI s) 5 := vp_in_nI (by omega) (by decide)
      refine br_f (nI_ge hs (by omega)) ⟨vs, ?_⟩
      dsimp only
      rw [es]
      by_cases ks : kn s
      · have b := C.1 s hs ks
        have t1 := ch_tot_pos w s
        have t2 := ch_tot_pos w (st s)
        have os : 0 < (o s : Int) * (ch_tot w s : Int) := Int.mul_pos (by omega) (by omega)
        have us : 0 < (u s : Int) * (ch_tot w (st s) : Int) := Int.mul_pos (by omega) (by omega)
        refine br_f (fun q => by have := (fp_zero us ((A s hs).1 ks)).mp q; omega) (nm_r (nI_1 s) (ih (fa, fb, tp, bt) ⟨kn, fun x hx => ?_, o, u, st, C, A⟩))
        by_cases e : x = s
        · rw [e]; exact ks
        · exact all x (by omega)
      · have I0 := rv_CI C hs ks
        have t1 := ch_tot_pos w s
        refine br_t ((A s hs).2 ks) ⟨vs, nm_e ⟨vs, nm_e ?_⟩⟩
        refine ym_rounds (s := s) c (K := kn) (s0 := s) (kn := fun i => kn i ∨ i = s) I0 ?_ (fun _ _ h => h) (fun fa' fb' tp' bt' kn' sub ex => ?_)
        · intro x hx
          by_cases q : x = s
          · rw [q, pk_uLs, pk_uLs, rv_us, rv_us, rv_us]
            refine ⟨fun _ => fp_eq (by decide) (by omega) ?_ (fp_int (t := 1) (by decide)), fun z => absurd (.inr rfl) z⟩
            omega
          · rw [pk_uLn q, pk_uLn q, rv_un _ _ q, rv_un _ _ q, rv_un _ _ q]
            exact ⟨fun z => (A x hx).1 (z.resolve_right q), fun z => (A x hx).2 (fun y => z (.inl y))⟩
        · obtain ⟨o', u', st', C', A'⟩ := ex
          refine ih (fa', fb', tp', bt') ⟨kn', fun x hx => sub x ?_, o', u', st', C', A'⟩
          by_cases e : x = s
          · exact .inr e
          · exact .inl (all x (by omega))
  · rintro f s ⟨tp, bt⟩ hs g ih
    dsimp only at g
    have es : (nI s).toNatClampNeg = s := nI_clamp (by omega)
    have vs : vp_in (nI s) 5 := vp_in_nI (by omega) (by decide)
    refine br_f (nI_ge hs (by omega)) ⟨vs, nm_e ⟨vs, nm_e (nm_r (nI_1 s) (ih (vp_updL tp (nI s).toNatClampNeg 0, vp_updL bt (nI s).toNatClampNeg 1) ?_))⟩⟩
    intro x hx
    dsimp only
    rw [es]
    by_cases e : x = s
    · rw [e, pk_uLs]
    · rw [pk_uLn e]; exact g x (by omega)
end
theorem i_vc_reversible {k : Nat} {u : SX} {v : SY} (I : i_Rel k u v) (hk : k + 5 ≤ 2561) : wpX_reversible (fun r u' => wpY_reversible (fun r' v' => r' = r ∧ i_Rel (k + 5) u' v') v) u := by
  obtain ⟨n, w, a, su, sy, ov, un, fa, fb, up, dn, op, tp, bt, nt, nb, rfl, rfl, c⟩ := I
  refine xm_rev c (fun h ov' un' => ?_) (fun h ov' un' => ?_)
  · exact ym_rev (cr_XY c) (fun _ _ _ _ _ => ⟨rfl, ir_mk (k + 5) c _ _ _ _ _ _ _ _ _ _ _ _⟩) (fun z => absurd h z)
  · exact ym_rev (cr_XY c) (fun z => absurd z h) (fun _ _ _ _ _ => ⟨rfl, ir_mk (k + 5) c _ _ _ _ _ _ _ _ _ _ _ _⟩)
