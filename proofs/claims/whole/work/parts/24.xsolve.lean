/-! the component's table of equations: laying out, clearing -/
theorem cv_pos {k : Nat} (h : k < 2 ^ 31) : (nI k).toInt64 = Int64.ofInt (k : Int) := by rw [nI_l h, lz_nat]
theorem cv_neg {k : Nat} (h : k < 2 ^ 31) : (-nI k).toInt64 = Int64.ofInt (-(k : Int)) := by
  rw [← Int64.ofInt_int32ToInt]
  congr 1
  rw [Int32.toInt_neg, nI_toInt h]
  exact Int.bmod_eq_of_le (by omega) (by omega)
def xs_M (n : Nat) (sy : Nat → Int64) (A : Nat → Nat → Int) : Prop := ∀ s, s < n → ∀ c, (c < n ∨ c = 5) → sy (6 * s + c) = Int64.ofInt (A s c)
def xs_0 (w : Nat → Nat) (U : Nat → Bool) (b : Nat → Int) (r : Nat → Int) (s c : Nat) : Int :=
  if c = 5 then (if U s = true then r s else b s) else if U s = true then ch_N w s c else if c = s then 1 else 0
section
variable {n : Nat} {w : Nat → Nat} {a su : Nat → Int32} {sy ov un : Nat → Int64}
theorem xm_layOut {post : SX → Prop} (c : cr_X n w a su) {m : Nat} (hm : m < 32) (hp : ∀ sy', xs_M n sy' (xs_0 w (fun s => m.testBit s) (fun _ => 0) (fun _ => 0)) → post (nI n, a, su, sy', ov, un)) : wpX_layOut post (nI n, a, su, sy, ov, un) (nI m) := by
  have h5 := c.1.2.1
  refine loop_0 (fun f i (s : Nat → Int64) => wX_layOut_2 post (nI m) (nI n) f (nI i) a su s ov un) (fun i sy => ∀ s, s < i → ∀ c, (c < n ∨ c = 5) → sy (6 * s + c) = Int64.ofInt (xs_0 w (fun s => m.testBit s) (fun _ => 0) (fun _ => 0) s c)) n sy ?_ ?_ ?_
  · intro s hs; omega
  · intro f sy h
    exact br_t (nI_le (Nat.le_refl n) (by omega)) (hp sy h)
  · intro f i sy hi h ih
    refine br_f (nI_ge hi (by omega)) ?_
    have tl := ch_tot_le c.1 (i := i) (by omega)
    have dg : (nI i * 6 + nI i).toNatClampNeg = 6 * i + i := by rw [ix_6]; exact nI_clamp (by omega)
    have d5 : (nI i * 6 + 5).toNatClampNeg = 6 * i + 5 := by
      rw [show nI i * 6 + 5 = nI (6 * i + 5) from ix_6 i 5]; exact nI_clamp (by omega)
    have v5 : vp_in (nI i * 6 + 5) 30 := by rw [show nI i * 6 + 5 = nI (6 * i + 5) from ix_6 i 5]; exact vp_in_nI (by omega) (by decide)
    have vd : vp_in (nI i * 6 + nI i) 30 := by rw [ix_6]; exact vp_in_nI (by omega) (by decide)
    have fin : ∀ (sy' : Nat → Int64) (z0 : Int64), (∀ s, s < i → ∀ c, (c < n ∨ c = 5) → sy' (6 * s + c) = Int64.ofInt (xs_0 w (fun s => m.testBit s) (fun _ => 0) (fun _ => 0) s c)) → (∀ c, c < n → c ≠ i → sy' (6 * i + c) = Int64.ofInt (xs_0 w (fun s => m.testBit s) (fun _ => 0) (fun _ => 0) i c)) → sy' (6 * i + i) + z0 = Int64.ofInt (xs_0 w (fun s => m.testBit s) (fun _ => 0) (fun _ => 0) i i) →
        wX_layOut_89 post (wX_layOut_2 post (nI m) (nI n) f) (nI m) (nI i) z0 (sy' (nI i * 6 + nI i).toNatClampNeg) (nI i * 6 + nI i) (nI n) a su sy' ov un := by
      intro sy' z0 g1 g2 g3
      refine ⟨vd, nm_e ⟨v5, nm_e (nm_r (nI_1 i) (ih _ ?_))⟩⟩
      intro s hs c hc
      rw [dg, d5]
      by_cases c5 : c = 5
      · by_cases si : s = i
        · rw [si, c5, pk_uLs]
          have : xs_0 w (fun s => m.testBit s) (fun _ => 0) (fun _ => 0) i 5 = 0 := by unfold xs_0; simp
          rw [this]; rfl
        · rw [pk_uLn (by omega), pk_uLn (by omega)]
          exact g1 s (by omega) c hc
      · by_cases si : s = i
        · rw [si, pk_uLn (by omega)]
          by_cases ci : c = i
          · rw [ci, pk_uLs]; exact g3
          · rw [pk_uLn (by omega)]; exact g2 c (by omega) ci
        · rw [pk_uLn (by omega), pk_uLn (by omega)]
          exact g1 s (by omega) c hc
    refine xm_has hm (by omega) (fun b => ?_) (fun b => ?_)
    · refine loop_0 (fun f' j (s : Nat → Int64) => wX_layOut_19 post (wX_layOut_2 post (nI m) (nI n) f) (nI m) (nI i) 1 (nI n) f' (nI j) a su s ov un) (fun j sy' => (∀ s, s < i → ∀ c, (c < n ∨ c = 5) → sy' (6 * s + c) = Int64.ofInt (xs_0 w (fun s => m.testBit s) (fun _ => 0) (fun _ => 0) s c)) ∧ ∀ c, c < j → sy' (6 * i + c) = Int64.ofInt (-(ch_sw w i c : Int))) n sy ?_ ?_ ?_
      · exact ⟨h, fun c hc => absurd hc (by omega)⟩
      · rintro f' sy' ⟨g1, g2⟩
        refine br_t (nI_le (Nat.le_refl n) (by omega)) ⟨vd, br_f (by decide) (xm_tot c (by omega) (fin sy' _ g1 ?_ ?_))⟩
        · intro x hx xi
          rw [g2 x hx]
          unfold xs_0
          simp only [b, if_true]
          rw [if_neg (by omega), ch_N_off xi]
        · rw [g2 i hi, cv_pos (by omega), ← Int64.ofInt_add]
          congr 1
          unfold xs_0 ch_N
          simp only [b, if_true]
          rw [if_neg (by omega)]; omega
      · rintro f' j sy' hj ⟨g1, g2⟩ ih2
        have sl := ch_sw_le c.1 (i := i) (j := j) (by omega) (by omega)
        refine br_f (nI_ge hj (by omega)) (br_f (by decide) (xm_sw c (by omega) (by omega) ?_))
        have dj : (nI i * 6 + nI j).toNatClampNeg = 6 * i + j := by rw [ix_6]; exact nI_clamp (by omega)
        refine ⟨by rw [ix_6]; exact vp_in_nI (by omega) (by decide), nm_e (nm_r (nI_1 j) (ih2 _ ⟨?_, ?_⟩))⟩
        · intro s hs x hx
          rw [dj, pk_uLn (by omega)]; exact g1 s hs x hx
        · intro x hx
          rw [dj]
          by_cases e : x = j
          · rw [e, pk_uLs, cv_neg (by omega)]
          · rw [pk_uLn (by omega)]; exact g2 x (by omega)
    · refine loop_0 (fun f' j (s : Nat → Int64) => wX_layOut_19 post (wX_layOut_2 post (nI m) (nI n) f) (nI m) (nI i) 0 (nI n) f' (nI j) a su s ov un) (fun j sy' => (∀ s, s < i → ∀ c, (c < n ∨ c = 5) → sy' (6 * s + c) = Int64.ofInt (xs_0 w (fun s => m.testBit s) (fun _ => 0) (fun _ => 0) s c)) ∧ ∀ c, c < j → sy' (6 * i + c) = 0) n sy ?_ ?_ ?_
      · exact ⟨h, fun c hc => absurd hc (by omega)⟩
      · rintro f' sy' ⟨g1, g2⟩
        refine br_t (nI_le (Nat.le_refl n) (by omega)) ⟨vd, br_t rfl (fin sy' _ g1 ?_ ?_)⟩
        · intro x hx xi
          rw [g2 x hx]
          unfold xs_0
          simp only [b, if_false, Bool.false_eq_true]
          rw [if_neg (by omega), if_neg xi]; rfl
        · rw [g2 i hi]
          unfold xs_0
          simp only [b, if_false, Bool.false_eq_true]
          rw [if_neg (by omega), if_pos trivial]; rfl
      · rintro f' j sy' hj ⟨g1, g2⟩ ih2
        have dj : (nI i * 6 + nI j).toNatClampNeg = 6 * i + j := by rw [ix_6]; exact nI_clamp (by omega)
        refine br_f (nI_ge hj (by omega)) (br_t rfl ⟨by rw [ix_6]; exact vp_in_nI (by omega) (by decide), nm_e (nm_r (nI_1 j) (ih2 _ ⟨?_, ?_⟩))⟩)
        · intro s hs x hx
          rw [dj, pk_uLn (by omega)]; exact g1 s hs x hx
        · intro x hx
          rw [dj]
          by_cases e : x = j
          · rw [e, pk_uLs]
          · rw [pk_uLn (by omega)]; exact g2 x (by omega)
def xs_cl (sy : Nat → Int64) (i k : Nat) (d : Int64) (j x : Nat) : Int64 := if 6 * i ≤ x ∧ x < 6 * i + j then (sy (6 * k + k) * sy x - sy (6 * i + k) * sy (6 * k + (x - 6 * i))) / d else sy x
theorem xm_clear {post : SX → Prop} {i k : Nat} {d : Int64} (hi : i < 5) (hk : k < 5) (ne : i ≠ k) (nz : ¬ d = 0) (hp : post (nI n, a, su, xs_cl sy i k d 6, ov, un)) : wpX_clearFactor post (nI n, a, su, sy, ov, un) (nI i) (nI k) d := by
  have e1 : (nI k * 6 + nI k).toNatClampNeg = 6 * k + k := by rw [ix_6]; exact nI_clamp (by omega)
  have e2 : (nI i * 6 + nI k).toNatClampNeg = 6 * i + k := by rw [ix_6]; exact nI_clamp (by omega)
  refine br_f nz ⟨by rw [ix_6]; exact vp_in_nI (by omega) (by decide), nm_r (by rw [e1]) ⟨by rw [ix_6]; exact vp_in_nI (by omega) (by decide), nm_r (by rw [e2]) ?_⟩⟩
  refine loop_0 (fun f j (s : Nat → Int64) => wX_clearFactor_36 post (nI i) (nI k) d (sy (6 * k + k)) (sy (6 * i + k)) (nI n) f (nI j) a su s ov un) (fun j s => s = xs_cl sy i k d j) 6 sy ?_ ?_ ?_
  · funext x
    unfold xs_cl
    rw [if_neg (by omega)]
  · rintro f s rfl
    exact br_t (by decide) hp
  · rintro f j s hj rfl ih
    have f1 : (nI i * 6 + nI j).toNatClampNeg = 6 * i + j := by rw [ix_6]; exact nI_clamp (by omega)
    have f2 : (nI k * 6 + nI j).toNatClampNeg = 6 * k + j := by rw [ix_6]; exact nI_clamp (by omega)
    have v1 : vp_in (nI i * 6 + nI j) 30 := by rw [ix_6]; exact vp_in_nI (by omega) (by decide)
    refine br_f (nI_ge (b := 6) hj (by decide)) ⟨v1, by rw [ix_6]; exact vp_in_nI (by omega) (by decide), nm_e ⟨nz, v1, nm_e (nm_r (nI_1 j) (ih _ ?_))⟩⟩
    rw [f1, f2]
    have g1 : xs_cl sy i k d j (6 * i + j) = sy (6 * i + j) := by unfold xs_cl; rw [if_neg (by omega)]
    have g2 : xs_cl sy i k d j (6 * k + j) = sy (6 * k + j) := by unfold xs_cl; rw [if_neg (by omega)]
    rw [g1, g2]
    funext x
    by_cases e : x = 6 * i + j
    · rw [e, pk_uLs]
      unfold xs_cl
      rw [if_pos (by omega), show 6 * i + j - 6 * i = j by omega]
    · rw [pk_uLn e]
      unfold xs_cl
      by_cases q : 6 * i ≤ x ∧ x < 6 * i + j
      · rw [if_pos q, if_pos (by omega)]
      · rw [if_neg q, if_neg (by omega)]
def xe_mid (w : Nat → Nat) (U : Nat → Bool) (b r0 : Nat → Int) (k i r c : Nat) : Int := if r < i ∧ r ≠ k then xe_val w U b r0 (k + 1) r c else xe_val w U b r0 k r c
theorem xe_midT {w : Nat → Nat} {U : Nat → Bool} {b r0 : Nat → Int} {k i r c : Nat} (h : r < i ∧ r ≠ k) : xe_mid w U b r0 k i r c = xe_val w U b r0 (k + 1) r c := if_pos h
theorem xe_midF {w : Nat → Nat} {U : Nat → Bool} {b r0 : Nat → Int} {k i r c : Nat} (h : ¬ (r < i ∧ r ≠ k)) : xe_mid w U b r0 k i r c = xe_val w U b r0 k r c := if_neg h
theorem xm_elim {post : SX → Prop} (ok : ch_ok n w) {U : Nat → Bool} (h : sv_ok n w U) {z : Nat} (hz : z < n) (uz : U z = false) {b r0 : Nat → Int} (hb : ∀ s, s < n → (b s).natAbs ≤ 1)
    (hr : ∀ k t, k ≤ n → t < n → U t = true → (xe_rhs w U b r0 k t).natAbs ≤ 45) (h0 : xs_M n sy (xe_val w U b r0 0)) (hp : ∀ sy', xs_M n sy' (xe_val w U b r0 n) → post (nI n, a, su, sy', ov, un)) : wpX_eliminate post (nI n, a, su, sy, ov, un) := by
  have h5 := ok.2.1
  have bd : ∀ {k s c}, k ≤ n → s < n → (c < n ∨ c = 5) → (xe_val w U b r0 k s c).natAbs ≤ 98415000 := fun hk hs hc => xe_b ok h hz uz hb hr hk hs hc
  refine loop_0 (fun f k (s : Int64 × (Nat → Int64)) => wX_eliminate_4 post f s.1 (nI k) (nI n) a su s.2 ov un) (fun k s => s.1 = Int64.ofInt (ba_D (ch_N w) (ba_ops U k)) ∧ xs_M n s.2 (xe_val w U b r0 k)) n (1, sy) ?_ ?_ ?_
  · exact ⟨rfl, h0⟩
  · rintro f ⟨d, sy⟩ ⟨_, h⟩
    exact br_t (nI_le (Nat.le_refl n) (by omega)) (hp sy h)
  · rintro f k ⟨d, sy⟩ hk ⟨hd, hM⟩ ih
    dsimp only at hd hM
    subst hd
    refine br_f (nI_ge hk (by omega)) ?_
    have D := sv_DT ok h hz uz (k := k) (by omega)
    have l4 : (ba_ops U k).length ≤ 4 := by have := ba_ops_len U k; omega
    have p4 := ye_pow (a := (ba_ops U k).length) (b := 4) l4
    have p4' : (45 : Int) ^ 4 = 4100625 := by decide
    have Db : (ba_D (ch_N w) (ba_ops U k)).natAbs < 9223372036854775808 := by omega
    have Dn : ¬ Int64.ofInt (ba_D (ch_N w) (ba_ops U k)) = 0 := fun q => by have := (lz_eq0 Db).mp q; omega
    refine loop_0 (fun f' i (s : Nat → Int64) => wX_eliminate_15 post (wX_eliminate_4 post f) (Int64.ofInt (ba_D (ch_N w) (ba_ops U k))) (nI k) f' (nI i) (nI n) a su s ov un) (fun i s => xs_M n s (xe_mid w U b r0 k i)) n sy ?_ ?_ ?_
    · intro s hs c hc
      rw [hM s hs c hc, xe_midF (by omega)]
    · intro f' sy' hM'
      have e1 : (nI k * 6 + nI k).toNatClampNeg = 6 * k + k := by rw [ix_6]; exact nI_clamp (by omega)
      refine br_t (nI_le (Nat.le_refl n) (by omega)) ⟨by rw [ix_6]; exact vp_in_nI (by omega) (by decide), nm_e (nm_r (nI_1 k) (ih (_, sy') ⟨?_, ?_⟩))⟩
      · dsimp only
        rw [e1, hM' k hk k (.inl hk), xe_midF (by omega), xe_piv ok hz uz b r0 hk]
      · intro s hs c hc
        dsimp only
        rw [hM' s hs c hc]
        by_cases q : s = k
        · rw [xe_midF (by omega), q, xe_same ok hz uz b r0 hk]
        · rw [xe_midT ⟨hs, q⟩]
    · intro f' i sy' hi hM' ih2
      refine br_f (nI_ge hi (by omega)) ?_
      by_cases e : i = k
      · refine br_t (by rw [e]) (nm_r (nI_1 i) (ih2 _ ?_))
        intro s hs c hc
        rw [hM' s hs c hc]
        congr 1
        by_cases q : s < i ∧ s ≠ k
        · rw [xe_midT q, xe_midT (by omega)]
        · rw [xe_midF q, xe_midF (by omega)]
      · refine br_f (fun q => e ((nI_eq (by omega) (by omega)).mp q)) (xm_clear (by omega) (by omega) e Dn ?_)
        dsimp only
        refine nm_r (nI_1 i) (ih2 _ ?_)
        intro s hs c hc
        unfold xs_cl
        by_cases q : s = i
        · subst q
          rw [if_pos (by omega), xe_midT (by omega), show 6 * s + c - 6 * s = c by omega, hM' k hk k (.inl hk), hM' s hs c hc, hM' s hs k (.inl hk), hM' k hk c hc]
          rw [xe_midF (by omega), xe_midF (by omega), xe_midF (by omega), xe_midF (by omega), ← Int64.ofInt_mul, ← Int64.ofInt_mul, ← Int64.ofInt_sub]
          have st := xe_step ok h hz uz b r0 hk hs e hc
          have b1 := bd (k := k) (s := k) (c := k) (by omega) hk (.inl hk)
          have b2 := bd (k := k) (s := s) (c := c) (by omega) hs hc
          have b3 := bd (k := k) (s := s) (c := k) (by omega) hs (.inl hk)
          have b4 := bd (k := k) (s := k) (c := c) (by omega) hk hc
          refine lz_exact (by omega) st ?_ Db
          have m1 := ba_nm b1 b2
          have m2 := ba_nm b3 b4
          have m3 := Int.natAbs_sub_le (xe_val w U b r0 k k k * xe_val w U b r0 k s c) (xe_val w U b r0 k s k * xe_val w U b r0 k k c)
          omega
        · rw [if_neg (by omega), hM' s hs c hc]
          congr 1
          by_cases y : s < i ∧ s ≠ k
          · rw [xe_midT y, xe_midT (by omega)]
          · rw [xe_midF y, xe_midF (by omega)]
end
