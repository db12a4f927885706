/-! finite sums of integers -/
def ba_S (f : Nat → Int) : Nat → Int
  | 0 => 0
  | n + 1 => ba_S f n + f n
theorem ba_S_congr {f g : Nat → Int} {n : Nat} (h : ∀ c, c < n → f c = g c) : ba_S f n = ba_S g n := by
  induction n with
  | zero => rfl
  | succ n ih =>
    simp only [ba_S]
    rw [ih (fun c hc => h c (by omega)), h n (by omega)]
theorem ba_S_add (f g : Nat → Int) (n : Nat) : ba_S (fun c => f c + g c) n = ba_S f n + ba_S g n := by
  induction n with
  | zero => rfl
  | succ n ih => simp only [ba_S]; rw [ih]; omega
theorem ba_S_mul (b : Int) (f : Nat → Int) (n : Nat) : ba_S (fun c => b * f c) n = b * ba_S f n := by
  induction n with
  | zero => simp [ba_S]
  | succ n ih => simp only [ba_S]; rw [ih, Int.mul_add]
theorem ba_S_le {f g : Nat → Int} {n : Nat} (h : ∀ c, c < n → f c ≤ g c) : ba_S f n ≤ ba_S g n := by
  induction n with
  | zero => exact Int.le_refl _
  | succ n ih =>
    simp only [ba_S]
    exact Int.add_le_add (ih (fun c hc => h c (by omega))) (h n (by omega))
theorem ba_S_zero {f : Nat → Int} {n : Nat} (h : ∀ c, c < n → f c = 0) : ba_S f n = 0 := by
  induction n with
  | zero => rfl
  | succ n ih =>
    simp only [ba_S]
    rw [ih (fun c hc => h c (by omega)), h n (by omega)]; rfl
theorem ba_S_nonneg {f : Nat → Int} {n : Nat} (h : ∀ c, c < n → 0 ≤ f c) : 0 ≤ ba_S f n := by
  induction n with
  | zero => exact Int.le_refl _
  | succ n ih =>
    simp only [ba_S]
    exact Int.add_nonneg (ih (fun c hc => h c (by omega))) (h n (by omega))
theorem ba_S_one {f : Nat → Int} {n p : Nat} (hp : p < n) (h : ∀ c, c < n → c ≠ p → f c = 0) : ba_S f n = f p := by
  induction n with
  | zero => omega
  | succ n ih =>
    simp only [ba_S]
    by_cases e : p = n
    · subst e
      rw [ba_S_zero (fun c hc => h c (by omega) (by omega))]; omega
    · rw [ih (by omega) (fun c hc hn => h c (by omega) hn), h n (by omega) (by omega)]; omega
theorem ba_S_top {f : Nat → Int} {n p : Nat} (hp : p < n) (h : ∀ c, c < n → c ≠ p → f c ≤ 0) : ba_S f n ≤ f p := by
  have h1 : ba_S f n ≤ ba_S (fun c => if c = p then f c else 0) n := by
    apply ba_S_le
    intro c hc
    by_cases e : c = p
    · simp [e]
    · simp only [e, if_false]; exact h c hc e
  have h2 : ba_S (fun c => if c = p then f c else 0) n = f p := by
    rw [ba_S_one hp (fun c _ hn => by simp [hn])]; simp
  omega
theorem ba_S_ge1 {f : Nat → Int} {n p : Nat} (hp : p < n) (h : ∀ c, c < n → 0 ≤ f c) : f p ≤ ba_S f n := by
  have h1 : ba_S (fun c => if c = p then f c else 0) n ≤ ba_S f n := by
    apply ba_S_le
    intro c hc
    by_cases e : c = p
    · simp [e]
    · simp only [e, if_false]; exact h c hc
  have h2 : ba_S (fun c => if c = p then f c else 0) n = f p := by
    rw [ba_S_one hp (fun c _ hn => by simp [hn])]; simp
  omega
/-! what holds after the unknown states below k have been cleared -/
def ba_T (n : Nat) (U : Nat → Bool) (N : Nat → Nat → Int) (g : Nat → Int) (k : Nat) (F : Nat → (Nat → Int) → Int) (D : Int) : Prop :=
  0 < D ∧
  (∀ s, s < n → U s = true → ∀ (v u : Nat → Int) (b : Int), F s (fun t => v t + b * u t) = F s v + b * F s u) ∧
  (∀ s, s < n → U s = true → ∀ v u : Nat → Int, (∀ t, t < n → U t = true → v t = u t) → F s v = F s u) ∧
  (∀ s, s < n → U s = true → ∀ c, c < k → U c = true → F s (fun t => N t c) = if s = c then D else 0) ∧
  (∀ s, s < n → U s = true → ∀ c, k ≤ c → c < n → U c = true → c ≠ s → F s (fun t => N t c) ≤ 0) ∧
  (∀ s, k ≤ s → s < n → U s = true → 0 < F s g) ∧
  (∀ s, k ≤ s → s < n → U s = true → F s (fun t => N t s) ≤ N s s * D) ∧
  (∀ s, s < n → U s = true → ∀ v : Nat → Int, (∀ t, t < n → U t = true → 0 ≤ v t) → 0 ≤ F s v) ∧
  (∀ s, s < n → U s = true → ∀ v : Nat → Int, D * v s = ba_S (fun c => (if c < k ∧ U c = true then N s c else 0) * F c v) n + if s < k then 0 else F s v)
theorem ba_T0 {n : Nat} {U : Nat → Bool} {N : Nat → Nat → Int} {g : Nat → Int}
    (hM : ∀ s, s < n → U s = true → ∀ c, c < n → U c = true → c ≠ s → N s c ≤ 0)
    (hg : ∀ s, s < n → U s = true → 0 < g s) : ba_T n U N g 0 (fun s v => v s) 1 := by
  refine ⟨by decide, fun s _ _ v u b => rfl, fun s hs us v u h => h s hs us, fun s _ _ c hc => absurd hc (by omega), fun s hs us c _ hc uc hn => hM s hs us c hc uc hn, fun s _ hs us => hg s hs us, fun s _ _ _ => by show N s s ≤ N s s * 1; omega, fun s hs us v h => h s hs us, fun s _ _ v => ?_⟩
  rw [ba_S_zero (fun c _ => by simp)]
  simp
theorem ba_Tskip {n : Nat} {U : Nat → Bool} {N : Nat → Nat → Int} {g : Nat → Int} {k : Nat} {F : Nat → (Nat → Int) → Int} {D : Int}
    (h : ba_T n U N g k F D) (hk : U k = false) : ba_T n U N g (k + 1) F D := by
  obtain ⟨h1, h2, h3, h4, h5, h6, h7, h8, h9⟩ := h
  have ne : ∀ c, U c = true → c ≠ k := fun c uc e => by rw [e, hk] at uc; cases uc
  refine ⟨h1, h2, h3, fun s hs us c hc uc => h4 s hs us c (by have := ne c uc; omega) uc, fun s hs us c hc hn uc hx => h5 s hs us c (by omega) hn uc hx, fun s hs hn us => h6 s (by omega) hn us, fun s hs hn us => h7 s (by omega) hn us, h8, fun s hs us v => ?_⟩
  have e1 := h9 s hs us v
  have e2 : ba_S (fun c => (if c < k + 1 ∧ U c = true then N s c else 0) * F c v) n = ba_S (fun c => (if c < k ∧ U c = true then N s c else 0) * F c v) n := by
    apply ba_S_congr
    intro c _
    by_cases uc : U c = true
    · have := ne c uc
      have e : (c < k + 1) = (c < k) := by
        apply propext
        constructor <;> intro <;> omega
      simp only [e]
    · simp [uc]
  have e3 : (if s < k + 1 then 0 else F s v) = (if s < k then 0 else F s v) := by
    have := ne s us
    by_cases z : s < k
    · rw [if_pos z, if_pos (by omega)]
    · rw [if_neg z, if_neg (by omega)]
  rw [e2, e3]; exact e1
theorem ba_lin0 {F : (Nat → Int) → Int} (h : ∀ (v u : Nat → Int) (b : Int), F (fun t => v t + b * u t) = F v + b * F u) : F (fun _ => 0) = 0 := by
  have e := h (fun _ => 0) (fun _ => 0) 1
  have e2 : (fun t : Nat => (fun _ => (0 : Int)) t + 1 * (fun _ => (0 : Int)) t) = fun _ => 0 := by funext t; rfl
  rw [e2] at e; omega
theorem ba_linS {F : (Nat → Int) → Int} (h : ∀ (v u : Nat → Int) (b : Int), F (fun t => v t + b * u t) = F v + b * F u) (x : Nat → Int) (M : Nat → Nat → Int) : ∀ n, F (fun t => ba_S (fun c => x c * M t c) n) = ba_S (fun c => x c * F (fun t => M t c)) n := by
  intro n
  induction n with
  | zero => exact ba_lin0 h
  | succ n ih =>
    have e := h (fun t => ba_S (fun c => x c * M t c) n) (fun t => M t n) (x n)
    simp only [ba_S]
    rw [e, ih]
theorem ba_piv {n : Nat} {U : Nat → Bool} {N : Nat → Nat → Int} {x : Nat → Int} {k : Nat} {F : Nat → (Nat → Int) → Int} {D : Int}
    (h : ba_T n U N (fun t => ba_S (fun c => (if U c = true then x c else 0) * N t c) n) k F D) (hx : ∀ c, c < n → U c = true → 0 < x c) (hk : k < n) (uk : U k = true) : 0 < F k (fun t => N t k) := by
  obtain ⟨h1, h2, h3, h4, h5, h6, h7, h8, h9⟩ := h
  have a := h6 k (by omega) hk uk
  rw [ba_linS (h2 k hk uk) (fun c => if U c = true then x c else 0) N n] at a
  have b : ba_S (fun c => (if U c = true then x c else 0) * F k (fun t => N t c)) n ≤ (if U k = true then x k else 0) * F k (fun t => N t k) := by
    refine ba_S_top (f := fun c => (if U c = true then x c else 0) * F k (fun t => N t c)) hk ?_
    intro c hc hn
    by_cases uc : U c = true
    · simp only [uc, if_true]
      have xc := hx c hc uc
      rcases Nat.lt_or_ge c k with z | z
      · rw [h4 k hk uk c z uc, if_neg (fun e => hn e.symm)]; simp
      · have := h5 k hk uk c z hc uc hn
        exact Int.mul_nonpos_of_nonneg_of_nonpos (by omega) this
    · simp [uc]
  rw [if_pos uk] at b
  have xk := hx k hk uk
  have c : 0 < x k * F k (fun t => N t k) := by omega
  exact Int.pos_of_mul_pos_right c xk
theorem ba_cancel {D a b : Int} (hD : 0 < D) (h : D * a = D * b) : a = b := Int.eq_of_mul_eq_mul_left (by omega) h
theorem ba_cancelLe {D a b : Int} (hD : 0 < D) (h : D * a ≤ D * b) : a ≤ b := Int.le_of_mul_le_mul_left h hD
theorem ba_cancelPos {D a : Int} (hD : 0 < D) (h : 0 < D * a) : 0 < a := Int.pos_of_mul_pos_right h hD
theorem ba_Tstep {n : Nat} {U : Nat → Bool} {N : Nat → Nat → Int} {g : Nat → Int} {k : Nat} {F F' : Nat → (Nat → Int) → Int} {D D' : Int}
    (h : ba_T n U N g k F D) (hk : k < n) (uk : U k = true) (hp : 0 < D') (hD : F k (fun t => N t k) = D')
    (hs : ∀ s, s < n → U s = true → s ≠ k → ∀ v, D * F' s v = D' * F s v - F s (fun t => N t k) * F k v)
    (hq : ∀ v, F' k v = F k v) : ba_T n U N g (k + 1) F' D' := by
  obtain ⟨h1, h2, h3, h4, h5, h6, h7, h8, h9⟩ := h
  have neg : ∀ s, s < n → U s = true → s ≠ k → F s (fun t => N t k) ≤ 0 := fun s hn us e => h5 s hn us k (Nat.le_refl k) hk uk (fun z => e z.symm)
  refine ⟨hp, ?_, ?_, ?_, ?_, ?_, ?_, ?_, ?_⟩
  · intro s hn us v u b
    by_cases e : s = k
    · subst e; rw [hq, hq, hq]; exact h2 s hn us v u b
    · apply ba_cancel h1
      rw [hs s hn us e, h2 s hn us, h2 k hk uk, Int.mul_add]
      have a := hs s hn us e v
      have c := hs s hn us e u
      grind
  · intro s hn us v u he
    by_cases e : s = k
    · subst e; rw [hq, hq]; exact h3 s hn us v u he
    · apply ba_cancel h1
      rw [hs s hn us e, hs s hn us e, h3 s hn us v u he, h3 k hk uk v u he]
  · intro s hn us c hc uc
    by_cases ck : c = k
    · subst ck
      by_cases e : s = c
      · subst e; rw [hq, hD, if_pos rfl]
      · rw [if_neg e]
        apply ba_cancel h1
        rw [hs s hn us e, hD]
        grind
    · by_cases e : s = k
      · subst e; rw [hq, h4 s hn us c (by omega) uc, if_neg (fun z => ck z.symm), if_neg (fun z => ck z.symm)]
      · apply ba_cancel h1
        have hkc : ¬ k = c := fun z => ck z.symm
        rw [hs s hn us e, h4 s hn us c (by omega) uc, h4 k hk uk c (by omega) uc, if_neg hkc]
        by_cases z : s = c
        · rw [if_pos z, if_pos z]; grind
        · rw [if_neg z, if_neg z]; grind
  · intro s hn us c hc cn uc cs
    by_cases e : s = k
    · subst e; rw [hq]; exact h5 s hn us c (by omega) cn uc cs
    · apply ba_cancelLe h1
      rw [hs s hn us e]
      have a := h5 s hn us c (by omega) cn uc cs
      have b := h5 k hk uk c (by omega) cn uc (by omega)
      have d := neg s hn us e
      have p1 : D' * F s (fun t => N t c) ≤ 0 := Int.mul_nonpos_of_nonneg_of_nonpos (by omega) a
      have p2 : 0 ≤ F s (fun t => N t k) * F k (fun t => N t c) := Int.mul_nonneg_of_nonpos_of_nonpos d b
      omega
  · intro s hks hn us
    have e : s ≠ k := by omega
    apply ba_cancelPos h1
    rw [hs s hn us e]
    have p1 : 0 < D' * F s g := Int.mul_pos hp (h6 s (by omega) hn us)
    have p2 : F s (fun t => N t k) * F k g ≤ 0 := Int.mul_nonpos_of_nonpos_of_nonneg (neg s hn us e) (by have := h6 k (Nat.le_refl k) hk uk; omega)
    omega
  · intro s hks hn us
    have e : s ≠ k := by omega
    apply ba_cancelLe h1
    rw [hs s hn us e]
    have p1 : D' * F s (fun t => N t s) ≤ D' * (N s s * D) := Int.mul_le_mul_of_nonneg_left (h7 s (by omega) hn us) (by omega)
    have p2 : 0 ≤ F s (fun t => N t k) * F k (fun t => N t s) := Int.mul_nonneg_of_nonpos_of_nonpos (neg s hn us e) (h5 k hk uk s (by omega) hn us e)
    have p3 : D' * (N s s * D) = D * (N s s * D') := by grind
    omega
  · intro s hn us v hv
    by_cases e : s = k
    · subst e; rw [hq]; exact h8 s hn us v hv
    · have p0 : 0 ≤ D * F' s v := by
        rw [hs s hn us e]
        have p1 : 0 ≤ D' * F s v := Int.mul_nonneg (by omega) (h8 s hn us v hv)
        have p2 : F s (fun t => N t k) * F k v ≤ 0 := Int.mul_nonpos_of_nonpos_of_nonneg (neg s hn us e) (h8 k hk uk v hv)
        omega
      exact Int.le_of_mul_le_mul_left (by simpa using p0) h1
  · intro s hn us v
    apply ba_cancel h1
    have a := h9 s hn us v
    have b := h9 s hn us (fun t => N t k)
    have e1 : D * ba_S (fun c => (if c < k + 1 ∧ U c = true then N s c else 0) * F' c v) n = D' * ba_S (fun c => (if c < k ∧ U c = true then N s c else 0) * F c v) n + (-(F k v)) * ba_S (fun c => (if c < k ∧ U c = true then N s c else 0) * F c (fun t => N t k)) n + D * N s k * F k v := by
      rw [← ba_S_mul, ← ba_S_mul, ← ba_S_mul, ← ba_S_add]
      have e2 : ba_S (fun c => if c = k then D * N s k * F k v else 0) n = D * N s k * F k v := by
        rw [ba_S_one hk (fun c _ hc => by simp [hc])]; simp
      rw [← e2, ← ba_S_add]
      apply ba_S_congr
      intro c hc
      by_cases uc : U c = true
      · by_cases ck : c = k
        · subst ck
          simp only [Nat.lt_irrefl, Nat.lt_succ_self, uc, and_self, if_true, false_and, if_false, hq]
          grind
        · by_cases lt : c < k
          · have l2 : c < k + 1 := by omega
            have z := hs c hc uc ck v
            simp only [lt, l2, uc, and_self, if_true, ck, if_false]
            grind
          · have l2 : ¬ c < k + 1 := by omega
            simp [lt, l2, ck]
      · have ck : c ≠ k := fun e => uc (e ▸ uk)
        simp [uc, ck]
    rw [Int.mul_add, e1]
    by_cases z : s < k
    · rw [if_pos z] at a b
      rw [if_pos (by omega : s < k + 1)]
      generalize ba_S (fun c => (if c < k ∧ U c = true then N s c else 0) * F c v) n = A at *
      generalize ba_S (fun c => (if c < k ∧ U c = true then N s c else 0) * F c (fun t => N t k)) n = B at *
      grind
    · rw [if_neg z] at a b
      generalize ba_S (fun c => (if c < k ∧ U c = true then N s c else 0) * F c v) n = A at *
      generalize ba_S (fun c => (if c < k ∧ U c = true then N s c else 0) * F c (fun t => N t k)) n = B at *
      by_cases e : s = k
      · subst e
        rw [if_pos (by omega : s < s + 1)]
        rw [hD] at b
        grind
      · rw [if_neg (by omega : ¬ s < k + 1)]
        have c := hs s hn us e v
        grind
/-! the unknown states below k, in their order -/
def ba_ops (U : Nat → Bool) : Nat → List Nat
  | 0 => []
  | k + 1 => if U k = true then ba_ops U k ++ [k] else ba_ops U k
theorem ba_ops_n {U : Nat → Bool} {k : Nat} (u : ¬ U k = true) : ba_ops U (k + 1) = ba_ops U k := if_neg u
theorem ba_ops_mem {U : Nat → Bool} {c : Nat} : ∀ {k}, c ∈ ba_ops U k ↔ c < k ∧ U c = true := by
  intro k
  induction k with
  | zero => simp [ba_ops]
  | succ k ih =>
    by_cases e : U k = true
    · simp only [ba_ops, e, if_true, List.mem_append, ih, List.mem_singleton]
      constructor
      · rintro (⟨a, b⟩ | rfl)
        · exact ⟨by omega, b⟩
        · exact ⟨by omega, e⟩
      · rintro ⟨a, b⟩
        by_cases z : c = k
        · exact .inr z
        · exact .inl ⟨by omega, b⟩
    · rw [ba_ops_n e, ih]
      constructor
      · rintro ⟨a, b⟩; exact ⟨by omega, b⟩
      · rintro ⟨a, b⟩
        have : c ≠ k := fun z => e (z ▸ b)
        exact ⟨by omega, b⟩
theorem ba_ops_nodup (U : Nat → Bool) : ∀ k, (ba_ops U k).Nodup := by
  intro k
  induction k with
  | zero => simp [ba_ops]
  | succ k ih =>
    by_cases e : U k = true
    · simp only [ba_ops, e, if_true]
      rw [List.nodup_append]
      refine ⟨ih, by simp, ?_⟩
      intro a ha b hb
      have := (ba_ops_mem.mp ha).1
      simp at hb
      omega
    · rw [ba_ops_n e]; exact ih
theorem ba_ops_len (U : Nat → Bool) : ∀ k, (ba_ops U k).length ≤ k := by
  intro k
  induction k with
  | zero => simp [ba_ops]
  | succ k ih =>
    by_cases e : U k = true
    · simp only [ba_ops, e, if_true, List.length_append, List.length_singleton]; omega
    · rw [ba_ops_n e]; omega
theorem ba_ops_lenz {U : Nat → Bool} {z : Nat} (hz : U z = false) : ∀ k, z < k → (ba_ops U k).length + 1 ≤ k := by
  intro k
  induction k with
  | zero => intro h; omega
  | succ k ih =>
    intro h
    by_cases e : U k = true
    · have : z ≠ k := fun q => by rw [q, e] at hz; cases hz
      have := ih (by omega)
      simp only [ba_ops, e, if_true, List.length_append, List.length_singleton]; omega
    · have := ba_ops_len U k
      rw [ba_ops_n e]; omega
theorem ba_tower {n : Nat} {U : Nat → Bool} {N : Nat → Nat → Int} {x : Nat → Int} (hn : n ≤ 5) {z : Nat} (hz : z < n) (uz : U z = false)
    (hM : ∀ s, s < n → U s = true → ∀ c, c < n → U c = true → c ≠ s → N s c ≤ 0)
    (hx : ∀ c, c < n → U c = true → 0 < x c)
    (hg : ∀ s, s < n → U s = true → 0 < ba_S (fun c => (if U c = true then x c else 0) * N s c) n) :
    ∀ k, k ≤ n → ba_T n U N (fun t => ba_S (fun c => (if U c = true then x c else 0) * N t c) n) k (ba_F N (ba_ops U k)) (ba_D N (ba_ops U k)) := by
  intro k
  induction k with
  | zero => intro _; exact ba_T0 hM hg
  | succ k ih =>
    intro hk
    have T := ih (by omega)
    by_cases uk : U k = true
    · have pv := ba_piv T hx (by omega) uk
      have ni : k ∉ ba_ops U k := fun q => by have := (ba_ops_mem.mp q).1; omega
      have zk : z ≠ k := fun q => by rw [q, uk] at uz; cases uz
      have l1 := ba_ops_len U k
      have l3 : (ba_ops U k).length ≤ 3 := by
        rcases Nat.lt_or_ge k 4 with q | q
        · omega
        · have := ba_ops_lenz uz k (by omega); omega
      have e : ba_ops U (k + 1) = ba_ops U k ++ [k] := by simp only [ba_ops, uk, if_true]
      rw [e]
      refine ba_Tstep T (by omega) uk (by rw [ba_stepD N _ _ l3 ni]; exact pv) (ba_stepD N _ _ l3 ni).symm ?_ (fun v => ba_stepP N _ _ v l3 ni)
      intro s hs us hsk v
      rw [ba_stepD N _ _ l3 ni]
      refine ba_step N _ k s v l3 (ba_ops_nodup U k) ni hsk ?_
      intro l4
      rcases Nat.lt_or_ge s k with q | q
      · exact ba_ops_mem.mpr ⟨q, us⟩
      · exfalso
        have zs : z ≠ s := fun q => by rw [q, us] at uz; cases uz
        rcases Nat.lt_or_ge z k with w | w
        · have := ba_ops_lenz uz k w; omega
        · omega
    · have uk' : U k = false := by simpa using uk
      have e : ba_ops U (k + 1) = ba_ops U k := ba_ops_n uk
      rw [e]
      exact ba_Tskip T uk'
