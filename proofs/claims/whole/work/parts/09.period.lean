/-! rows of exactly k steps, and the greatest number that divides the lengths of those that lead back -/
def pe_W (n : Nat) (E : Nat → Nat → Prop) (a : Nat) : Nat → Nat → Prop
  | 0, b => b = a
  | k + 1, b => b < n ∧ ∃ x, x < n ∧ pe_W n E a k x ∧ E x b
theorem pe_W_lt {n : Nat} {E : Nat → Nat → Prop} {a : Nat} (ha : a < n) : ∀ {k b}, pe_W n E a k b → b < n := by
  intro k b h
  cases k with
  | zero => rw [show b = a from h]; exact ha
  | succ k => exact h.1
theorem pe_cat {n : Nat} {E : Nat → Nat → Prop} {a b : Nat} {k : Nat} (h : pe_W n E a k b) : ∀ {m c}, pe_W n E b m c → pe_W n E a (k + m) c := by
  intro m
  induction m with
  | zero => intro c hc; rw [show c = b from hc]; exact h
  | succ m ih =>
    intro c hc
    obtain ⟨hn, x, hx, w, e⟩ := hc
    exact ⟨hn, x, hx, ih w, e⟩
theorem pe_R {n : Nat} {E : Nat → Nat → Prop} {a : Nat} : ∀ {k b}, pe_W n E a k b → gr_R n E (fun _ => False) a k b := by
  intro k
  induction k with
  | zero => intro b h; exact h
  | succ k ih =>
    intro b h
    obtain ⟨hn, x, hx, w, e⟩ := h
    exact .inr ⟨hn, x, hx, ih w, fun z => z, e⟩
theorem pe_ofR {n : Nat} {E : Nat → Nat → Prop} {a : Nat} : ∀ {k b}, gr_R n E (fun _ => False) a k b → ∃ m, m ≤ k ∧ pe_W n E a m b := by
  intro k
  induction k with
  | zero => intro b h; exact ⟨0, Nat.le_refl _, h⟩
  | succ k ih =>
    intro b h
    rcases h with h | ⟨hn, x, hx, r, _, e⟩
    · obtain ⟨m, hm, w⟩ := ih h
      exact ⟨m, by omega, w⟩
    · obtain ⟨m, hm, w⟩ := ih r
      exact ⟨m + 1, by omega, hn, x, hx, w, e⟩
theorem pe_short {n : Nat} {E : Nat → Nat → Prop} {a b k : Nat} (ha : a < n) (h : pe_W n E a k b) : ∃ m, m ≤ n - 1 ∧ pe_W n E a m b :=
  pe_ofR (gr_R_stab ha k b (pe_R h))
theorem pe_fun {n : Nat} {E : Nat → Nat → Prop} {a : Nat} (ha : a < n) : ∀ {k b}, pe_W n E a k b → ∃ f : Nat → Nat, f 0 = a ∧ f k = b ∧ (∀ t, t ≤ k → f t < n) ∧ ∀ t, t < k → E (f t) (f (t + 1)) := by
  intro k
  induction k with
  | zero => intro b h; exact ⟨fun _ => a, rfl, h.symm, fun _ _ => ha, fun t ht => absurd ht (by omega)⟩
  | succ k ih =>
    intro b h
    obtain ⟨hn, x, hx, w, e⟩ := h
    obtain ⟨f, f0, fk, fl, fe⟩ := ih w
    refine ⟨fun t => if t = k + 1 then b else f t, ?_, ?_, ?_, ?_⟩
    · simp [f0]
    · simp
    · intro t ht
      by_cases q : t = k + 1
      · simp [q, hn]
      · simp only [q, if_false]; exact fl t (by omega)
    · intro t ht
      by_cases q : t = k
      · subst q
        simp only [if_true]
        rw [if_neg (by omega), fk]; exact e
      · show E (if t = k + 1 then b else f t) (if t + 1 = k + 1 then b else f (t + 1))
        rw [if_neg (by omega), if_neg (by omega)]; exact fe t (by omega)
theorem pe_seg {n : Nat} {E : Nat → Nat → Prop} {f : Nat → Nat} {k : Nat} (fl : ∀ t, t ≤ k → f t < n) (fe : ∀ t, t < k → E (f t) (f (t + 1))) (s : Nat) : ∀ d, s + d ≤ k → pe_W n E (f s) d (f (s + d)) := by
  intro d
  induction d with
  | zero => intro _; rfl
  | succ d ih =>
    intro h
    exact ⟨fl _ h, f (s + d), fl _ (by omega), ih (by omega), fe _ (by omega)⟩
theorem pe_pigeon : ∀ (n : Nat) (f : Nat → Nat), (∀ t, t ≤ n → f t < n) → ∃ s d, 0 < d ∧ s + d ≤ n ∧ f s = f (s + d) := by
  intro n
  induction n with
  | zero => intro f h; exact absurd (h 0 (Nat.le_refl _)) (by omega)
  | succ n ih =>
    intro f h
    by_cases q : ∃ t, t ≤ n ∧ f t = f (n + 1)
    · obtain ⟨t, ht, e⟩ := q
      exact ⟨t, n + 1 - t, by omega, by omega, by rw [e]; congr 1; omega⟩
    · have ne : ∀ t, t ≤ n → f t ≠ f (n + 1) := fun t ht e => q ⟨t, ht, e⟩
      have hb := h (n + 1) (Nat.le_refl _)
      obtain ⟨s, d, hd, hs, e⟩ := ih (fun t => if f (n + 1) < f t then f t - 1 else f t) (fun t ht => by
        have a := h t (by omega)
        have b := ne t ht
        split <;> omega)
      refine ⟨s, d, hd, by omega, ?_⟩
      have a := ne s (by omega)
      have b := ne (s + d) (by omega)
      split at e <;> split at e <;> omega
/-- what divides all lengths up to 13 divides all -/
theorem pe_div {n : Nat} {E : Nat → Nat → Prop} {i g : Nat} (hn : n ≤ 5) (hi : i < n) (hg : ∀ k, 1 ≤ k → k ≤ 13 → pe_W n E i k i → g ∣ k) :
    ∀ L v, v < n → (∃ p, pe_W n E i p v) → (∃ q, pe_W n E v q i) → 1 ≤ L → pe_W n E v L v → g ∣ L := by
  intro L
  induction L using Nat.strongRecOn with
  | ind L ih =>
    intro v hv hp hq h1 w
    have small : ∀ c x, 1 ≤ c → c ≤ 5 → x < n → (∃ p, pe_W n E i p x) → (∃ q, pe_W n E x q i) → pe_W n E x c x → g ∣ c := by
      intro c x c1 c5 hx hp hq wc
      obtain ⟨p, wp⟩ := hp
      obtain ⟨q, wq⟩ := hq
      obtain ⟨p, hp, wp⟩ := pe_short hi wp
      obtain ⟨q, hq, wq⟩ := pe_short hx wq
      have a := pe_cat wp wq
      have b := pe_cat (pe_cat wp wc) wq
      rcases Nat.eq_zero_or_pos (p + q) with z | z
      · have p0 : p = 0 := by omega
        have q0 : q = 0 := by omega
        subst p0 q0
        rw [show x = i from wp] at wc
        exact hg c c1 (by omega) wc
      · have d1 := hg (p + q) z (by omega) a
        have d2 := hg (p + c + q) (by omega) (by omega) b
        have e : p + c + q = (p + q) + c := by omega
        rw [e] at d2
        exact (Nat.dvd_add_right d1).mp d2
    rcases Nat.lt_or_ge 5 L with big | le
    · obtain ⟨f, f0, fk, fl, fe⟩ := pe_fun hv w
      obtain ⟨s, d, hd, hs, e⟩ := pe_pigeon n f (fun t ht => fl t (by omega))
      have w1 := pe_seg fl fe 0 s (by omega)
      have w2 := pe_seg fl fe s d (by omega)
      have w3 := pe_seg fl fe (s + d) (L - (s + d)) (by omega)
      rw [Nat.zero_add, f0] at w1
      rw [← e] at w2 w3
      rw [show s + d + (L - (s + d)) = L by omega, fk] at w3
      have hx := fl s (by omega)
      obtain ⟨p, wp⟩ := hp
      obtain ⟨q, wq⟩ := hq
      have dd := small d (f s) (by omega) (by omega) hx ⟨_, pe_cat wp w1⟩ ⟨_, pe_cat w3 wq⟩ w2
      have wr := pe_cat w1 w3
      have dr := ih (s + (L - (s + d))) (by omega) v hv ⟨p, wp⟩ ⟨q, wq⟩ (by omega) wr
      have e2 : L = (s + (L - (s + d))) + d := by omega
      rw [e2]
      exact Nat.dvd_add dr dd
    · exact small L v h1 le hv hp hq w
/-- the running greatest common divisor over the lengths 1 .. m that lead back -/
noncomputable def pe_g (p : Nat → Prop) : Nat → Nat
  | 0 => 0
  | m + 1 => @ite Nat (p (m + 1)) (Classical.propDecidable _) (Nat.gcd (pe_g p m) (m + 1)) (pe_g p m)
theorem pe_g_dvd (p : Nat → Prop) : ∀ m k, 1 ≤ k → k ≤ m → p k → pe_g p m ∣ k := by
  intro m
  induction m with
  | zero => intro k h1 h2; omega
  | succ m ih =>
    intro k h1 h2 hp
    unfold pe_g
    by_cases q : p (m + 1)
    · rw [if_pos q]
      by_cases e : k = m + 1
      · rw [e]; exact Nat.gcd_dvd_right _ _
      · exact Nat.dvd_trans (Nat.gcd_dvd_left _ _) (ih k h1 (by omega) hp)
    · rw [if_neg q]
      have e : k ≠ m + 1 := fun e => q (e ▸ hp)
      exact ih k h1 (by omega) hp
theorem pe_dvd_g (p : Nat → Prop) (d : Nat) : ∀ m, (∀ k, 1 ≤ k → k ≤ m → p k → d ∣ k) → d ∣ pe_g p m := by
  intro m
  induction m with
  | zero => intro _; exact Nat.dvd_zero _
  | succ m ih =>
    intro h
    unfold pe_g
    by_cases q : p (m + 1)
    · rw [if_pos q]
      exact Nat.dvd_gcd (ih (fun k h1 h2 => h k h1 (by omega))) (h _ (by omega) (Nat.le_refl _) q)
    · rw [if_neg q]
      exact ih (fun k h1 h2 => h k h1 (by omega))
theorem pe_g_eq {n : Nat} {E : Nat → Nat → Prop} {i : Nat} (hn : n ≤ 5) (hi : i < n) (m : Nat) (hm : 13 ≤ m) : pe_g (fun k => pe_W n E i k i) 13 = pe_g (fun k => pe_W n E i k i) m := by
  apply Nat.dvd_antisymm
  · apply pe_dvd_g
    intro k h1 _ w
    exact pe_div hn hi (fun k h1 h2 w => pe_g_dvd _ 13 k h1 h2 w) k i hi ⟨0, rfl⟩ ⟨0, rfl⟩ h1 w
  · apply pe_dvd_g
    intro k h1 h2 w
    exact pe_g_dvd _ m k h1 (by omega) w
theorem pe_g_le (p : Nat → Prop) : ∀ m, pe_g p m ≤ m := by
  intro m
  induction m with
  | zero => exact Nat.le_refl _
  | succ m ih =>
    unfold pe_g
    by_cases q : p (m + 1)
    · rw [if_pos q]; exact Nat.gcd_le_right _ (by omega)
    · rw [if_neg q]; omega
