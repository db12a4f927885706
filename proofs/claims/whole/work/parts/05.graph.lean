/-! counting below n, and chains of sets that stop growing -/
noncomputable def gr_cnt (p : Nat → Prop) : Nat → Nat
  | 0 => 0
  | n + 1 => gr_cnt p n + @ite Nat (p n) (Classical.propDecidable (p n)) 1 0
theorem gr_cnt_le (p : Nat → Prop) : ∀ n, gr_cnt p n ≤ n := by
  intro n
  induction n with
  | zero => exact Nat.le_refl _
  | succ n ih =>
    unfold gr_cnt
    by_cases h : p n
    · rw [if_pos h]; omega
    · rw [if_neg h]; omega
theorem gr_cnt_mono {p q : Nat → Prop} : ∀ {n : Nat}, (∀ i, i < n → p i → q i) → gr_cnt p n ≤ gr_cnt q n := by
  intro n
  induction n with
  | zero => intro _; exact Nat.le_refl _
  | succ n ih =>
    intro h
    have a := ih (fun i hi => h i (by omega))
    have b := h n (by omega)
    unfold gr_cnt
    by_cases hp : p n
    · rw [if_pos hp, if_pos (b hp)]; omega
    · rw [if_neg hp]; omega
theorem gr_cnt_lt {p q : Nat → Prop} : ∀ {n : Nat}, (∀ i, i < n → p i → q i) → ∀ i, i < n → q i → ¬ p i → gr_cnt p n + 1 ≤ gr_cnt q n := by
  intro n
  induction n with
  | zero => intro _ i hi; omega
  | succ n ih =>
    intro h i hi hq hp
    unfold gr_cnt
    by_cases e : i = n
    · subst e
      have a := gr_cnt_mono (fun j (hj : j < i) => h j (by omega))
      rw [if_pos hq, if_neg hp]; omega
    · have a := ih (fun j hj => h j (by omega)) i (by omega) hq hp
      by_cases hpn : p n
      · rw [if_pos hpn, if_pos (h n (by omega) hpn)]; omega
      · rw [if_neg hpn]; omega
theorem gr_stab {n : Nat} {L : Nat → Nat → Prop} (mono : ∀ k i, L k i → L (k + 1) i)
    (det : ∀ k, (∀ i, i < n → L (k + 1) i → L k i) → ∀ i, i < n → L (k + 2) i → L (k + 1) i)
    (g : ∃ i, i < n ∧ L 0 i) : ∀ k i, i < n → L k i → L (n - 1) i := by
  have P : ∀ k, (∃ j, j < k ∧ ∀ i, i < n → L (j + 1) i → L j i) ∨ k + 1 ≤ gr_cnt (L k) n := by
    intro k
    induction k with
    | zero =>
      obtain ⟨i, hi, h0⟩ := g
      have := gr_cnt_lt (p := fun _ => False) (q := L 0) (n := n) (fun _ _ h => h.elim) i hi h0 (fun h => h)
      exact .inr (by omega)
    | succ k ih =>
      rcases ih with ⟨j, hj, h⟩ | h
      · exact .inl ⟨j, by omega, h⟩
      · by_cases st : ∀ i, i < n → L (k + 1) i → L k i
        · exact .inl ⟨k, by omega, st⟩
        · refine .inr ?_
          have : ∃ i, i < n ∧ L (k + 1) i ∧ ¬ L k i := by
            apply Classical.byContradiction
            intro hc
            apply st
            intro i hi h1
            apply Classical.byContradiction
            intro h2
            exact hc ⟨i, hi, h1, h2⟩
          obtain ⟨i, hi, h1, h2⟩ := this
          have := gr_cnt_lt (p := L k) (q := L (k + 1)) (n := n) (fun i _ hx => mono k i hx) i hi h1 h2
          omega
  have up : ∀ d k i, L k i → L (k + d) i := by
    intro d
    induction d with
    | zero => intro k i h; exact h
    | succ d ih => intro k i h; exact mono _ _ (ih k i h)
  rcases P n with ⟨j, hj, st⟩ | h
  · have st2 : ∀ d i, i < n → L (j + d + 1) i → L (j + d) i := by
      intro d
      induction d with
      | zero => intro i hi h; exact st i hi h
      | succ d ih => intro i hi h; exact det (j + d) ih i hi h
    have dn : ∀ d i, i < n → L (j + d) i → L j i := by
      intro d
      induction d with
      | zero => intro i _ h; exact h
      | succ d ih => intro i hi h; exact ih i hi (st2 d i hi h)
    intro k i hi h
    rcases Nat.le_total k j with q | q
    · have := up (n - 1 - k) k i h
      rwa [show k + (n - 1 - k) = n - 1 by omega] at this
    · have a := dn (k - j) i hi (by rwa [show j + (k - j) = k by omega])
      have := up (n - 1 - j) j i a
      rwa [show j + (n - 1 - j) = n - 1 by omega] at this
  · have := gr_cnt_le (L n) n; omega
/-! going backwards to a goal G through states that are not barred, and forwards from i, not on from T -/
def gr_L (n : Nat) (E : Nat → Nat → Prop) (G B : Nat → Prop) : Nat → Nat → Prop
  | 0, i => G i
  | k + 1, i => gr_L n E G B k i ∨ (¬ B i ∧ ∃ j, j < n ∧ E i j ∧ gr_L n E G B k j)
def gr_R (n : Nat) (E : Nat → Nat → Prop) (T : Nat → Prop) (i : Nat) : Nat → Nat → Prop
  | 0, j => j = i
  | k + 1, j => gr_R n E T i k j ∨ (j < n ∧ ∃ x, x < n ∧ gr_R n E T i k x ∧ ¬ T x ∧ E x j)
theorem gr_L_up {n : Nat} {E : Nat → Nat → Prop} {G B : Nat → Prop} {i : Nat} : ∀ {k m : Nat}, k ≤ m → gr_L n E G B k i → gr_L n E G B m i := by
  intro k m h
  induction m with
  | zero => intro a; rwa [show k = 0 by omega] at a
  | succ m ih =>
    intro a
    rcases Nat.lt_or_ge m k with q | q
    · rwa [show k = m + 1 by omega] at a
    · exact .inl (ih q a)
theorem gr_R_up {n : Nat} {E : Nat → Nat → Prop} {T : Nat → Prop} {i j : Nat} : ∀ {k m : Nat}, k ≤ m → gr_R n E T i k j → gr_R n E T i m j := by
  intro k m h
  induction m with
  | zero => intro a; rwa [show k = 0 by omega] at a
  | succ m ih =>
    intro a
    rcases Nat.lt_or_ge m k with q | q
    · rwa [show k = m + 1 by omega] at a
    · exact .inl (ih q a)
theorem gr_L_stab {n : Nat} {E : Nat → Nat → Prop} {G B : Nat → Prop} (k i : Nat) (hi : i < n) (h : gr_L n E G B k i) : gr_L n E G B (n - 1) i := by
  by_cases g : ∃ j, j < n ∧ G j
  · refine gr_stab (L := gr_L n E G B) (fun k i h => .inl h) ?_ g k i hi h
    intro k st i hi h
    rcases h with h | ⟨hb, j, hj, e, h⟩
    · exact h
    · exact .inr ⟨hb, j, hj, e, st j hj h⟩
  · have no : ∀ k i, i < n → ¬ gr_L n E G B k i := by
      intro k
      induction k with
      | zero => intro i hi h; exact g ⟨i, hi, h⟩
      | succ k ih =>
        intro i hi h
        rcases h with h | ⟨_, j, hj, _, h⟩
        · exact ih i hi h
        · exact ih j hj h
    exact absurd h (no k i hi)
theorem gr_R_lt {n : Nat} {E : Nat → Nat → Prop} {T : Nat → Prop} {i : Nat} (hi : i < n) : ∀ k j, gr_R n E T i k j → j < n := by
  intro k
  induction k with
  | zero => intro j h; rw [show j = i from h]; exact hi
  | succ k ih =>
    intro j h
    rcases h with h | h
    · exact ih j h
    · exact h.1
theorem gr_R_stab {n : Nat} {E : Nat → Nat → Prop} {T : Nat → Prop} {i : Nat} (hi : i < n) (k j : Nat) (h : gr_R n E T i k j) : gr_R n E T i (n - 1) j := by
  refine gr_stab (n := n) (L := gr_R n E T i) (fun k i h => .inl h) ?_ ⟨i, hi, rfl⟩ k j (gr_R_lt hi k j h) h
  intro k st j hj h
  rcases h with h | ⟨hn, x, hx, r, t, e⟩
  · exact h
  · exact .inr ⟨hn, x, hx, st x hx r, t, e⟩
theorem gr_R_pre {n : Nat} {E : Nat → Nat → Prop} {T : Nat → Prop} {i j : Nat} (hi : i < n) (hj : j < n) (ht : ¬ T i) (e : E i j) : ∀ k y, gr_R n E T j k y → gr_R n E T i (k + 1) y := by
  intro k
  induction k with
  | zero => intro y h; rw [show y = j from h]; exact .inr ⟨hj, i, hi, rfl, ht, e⟩
  | succ k ih =>
    intro y h
    rcases h with h | ⟨hy, x, hx, r, t, ex⟩
    · exact .inl (ih y h)
    · exact .inr ⟨hy, x, hx, ih x r, t, ex⟩
theorem gr_LR {n : Nat} {E : Nat → Nat → Prop} {G B T : Nat → Prop} (hT : ∀ x, T x → G x ∨ B x) : ∀ k i, i < n → gr_L n E G B k i → ∃ m y, y < n ∧ G y ∧ gr_R n E T i m y := by
  intro k
  induction k with
  | zero => intro i hi h; exact ⟨0, i, hi, h, rfl⟩
  | succ k ih =>
    intro i hi h
    by_cases g : G i
    · exact ⟨0, i, hi, g, rfl⟩
    · rcases h with h | ⟨hb, j, hj, e, h⟩
      · exact ih i hi h
      · obtain ⟨m, y, hy, gy, r⟩ := ih j hj h
        exact ⟨m + 1, y, hy, gy, gr_R_pre hi hj (fun t => (hT i t).elim g hb) e m y r⟩
theorem gr_RL {n : Nat} {E : Nat → Nat → Prop} {G B T : Nat → Prop} {i : Nat} (hT : ∀ x, B x → T x) : ∀ k y, y < n → gr_R n E T i k y → ∀ m, gr_L n E G B m y → ∃ m', gr_L n E G B m' i := by
  intro k
  induction k with
  | zero => intro y _ h m l; rw [show y = i from h] at l; exact ⟨m, l⟩
  | succ k ih =>
    intro y hy h m l
    rcases h with h | ⟨_, x, hx, r, t, e⟩
    · exact ih y hy h m l
    · exact ih x hx r (m + 1) (.inr ⟨fun b => t (hT x b), y, hy, e, l⟩)
/-- one can go from i to the goal: backwards in n - 1 rounds, or forwards in any number from n - 1 on -/
theorem gr_lead {n : Nat} {E : Nat → Nat → Prop} {G B T : Nat → Prop} (hT : ∀ x, T x → G x ∨ B x) (hB : ∀ x, B x → T x) {i q : Nat} (hi : i < n) (hq : n ≤ q + 1) : gr_L n E G B (n - 1) i ↔ ∃ y, y < n ∧ G y ∧ gr_R n E T i q y := by
  constructor
  · intro h
    obtain ⟨m, y, hy, gy, r⟩ := gr_LR hT _ i hi h
    exact ⟨y, hy, gy, gr_R_up (by omega) (gr_R_stab hi m y r)⟩
  · rintro ⟨y, hy, gy, r⟩
    obtain ⟨m, l⟩ := gr_RL (G := G) hB q y hy r 0 gy
    exact gr_L_stab m i hi l
theorem gr_R5 {n : Nat} {E : Nat → Nat → Prop} {T : Nat → Prop} {i j q : Nat} (hi : i < n) (hq : n ≤ q + 1) : gr_R n E T i q j ↔ gr_R n E T i (n - 1) j :=
  ⟨fun h => gr_R_stab hi q j h, fun h => gr_R_up (by omega) h⟩
theorem gr_to {n : Nat} {E : Nat → Nat → Prop} {i j q : Nat} (hi : i < n) (hj : j < n) (hq : n ≤ q + 1) : gr_L n E (fun y => y = i) (fun _ => False) (n - 1) j ↔ gr_R n E (fun _ => False) j q i := by
  rw [gr_lead (T := fun _ => False) (fun _ z => z.elim) (fun _ z => z) hj hq]
  constructor
  · rintro ⟨y, _, rfl, r⟩; exact r
  · intro r; exact ⟨i, hi, rfl, r⟩
/-! ranks -/
theorem gr_least (P : Nat → Prop) (h : ∃ k, P k) : ∃ k, P k ∧ ∀ j, j < k → ¬ P j := by
  obtain ⟨k, hk⟩ := h
  induction k using Nat.strongRecOn with
  | ind k ih =>
    by_cases z : ∃ j, j < k ∧ P j
    · obtain ⟨j, hj, pj⟩ := z
      exact ih j hj pj
    · exact ⟨k, hk, fun j hj pj => z ⟨j, hj, pj⟩⟩
theorem gr_ranks {n : Nat} {E : Nat → Nat → Prop} {G B : Nat → Prop} : ∃ rk : Nat → Nat, ∀ i, i < n → ¬ G i → gr_L n E G B (n - 1) i → 1 ≤ rk i ∧ rk i ≤ n - 1 ∧ ¬ B i ∧ ∃ j, j < n ∧ E i j ∧ (G j ∨ (gr_L n E G B (n - 1) j ∧ rk j < rk i)) := by
  have ex : ∀ i, ∃ r, (∃ k, gr_L n E G B k i) → gr_L n E G B r i ∧ ∀ j, j < r → ¬ gr_L n E G B j i := by
    intro i
    by_cases h : ∃ k, gr_L n E G B k i
    · obtain ⟨r, h1, h2⟩ := gr_least _ h
      exact ⟨r, fun _ => ⟨h1, h2⟩⟩
    · exact ⟨0, fun z => absurd z h⟩
  refine ⟨fun i => Classical.choose (ex i), ?_⟩
  intro i hi ng l
  have sp := fun i => Classical.choose_spec (ex i)
  generalize hr : (fun i => Classical.choose (ex i)) = rk at *
  have sp : ∀ i, (∃ k, gr_L n E G B k i) → gr_L n E G B (rk i) i ∧ ∀ j, j < rk i → ¬ gr_L n E G B j i := by
    intro i; rw [← hr]; exact sp i
  obtain ⟨h1, h2⟩ := sp i ⟨_, l⟩
  have p1 : 1 ≤ rk i := by
    rcases Nat.eq_zero_or_pos (rk i) with z | z
    · rw [z] at h1; exact absurd h1 ng
    · exact z
  have p2 : rk i ≤ n - 1 := by
    rcases Nat.lt_or_ge (n - 1) (rk i) with z | z
    · exact absurd l (h2 _ z)
    · exact z
  obtain ⟨m, hm⟩ : ∃ m, rk i = m + 1 := ⟨rk i - 1, by omega⟩
  rw [hm] at h1
  rcases h1 with h1 | ⟨hb, j, hj, e, h1⟩
  · exact absurd h1 (h2 m (by omega))
  · refine ⟨p1, p2, hb, j, hj, e, .inr ⟨gr_L_stab m j hj h1, ?_⟩⟩
    obtain ⟨_, q2⟩ := sp j ⟨_, h1⟩
    rcases Nat.lt_or_ge m (rk j) with z | z
    · exact absurd h1 (q2 m z)
    · omega
