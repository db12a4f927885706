/-! balance there and back: numbers along a forest of pairs -/
def rv_e (w : Nat → Nat) (i j : Nat) : Prop := 0 < w (5 * i + j) ∧ 0 < w (5 * j + i)
theorem rv_sym {w : Nat → Nat} {i j : Nat} (h : rv_e w i j) : rv_e w j i := ⟨h.2, h.1⟩
def rv_b (n : Nat) (w : Nat → Nat) (p q : Nat → Int) : Prop := (∀ i, i < n → 0 < p i ∧ 0 < q i) ∧ ∀ i j, i < n → j < n → p i * q j * (w (5 * i + j) : Int) = p j * q i * (w (5 * j + i) : Int)
def rv_L (n : Nat) (w : Nat → Nat) (K : Nat → Prop) (s0 : Nat) : Nat → Nat → Prop := gr_L n (fun j x => rv_e w x j) (fun i => K i ∨ i = s0) (fun _ => False)
def rv_I (n : Nat) (w : Nat → Nat) (K : Nat → Prop) (s0 : Nat) (kn : Nat → Prop) (ov un st : Nat → Nat) : Prop :=
  (∀ i, i < n → kn i → 1 ≤ ov i ∧ ov i ≤ 9 ^ (gr_cnt kn n - 1) ∧ 1 ≤ un i ∧ un i ≤ 9 ^ (gr_cnt kn n - 1) ∧ st i < n) ∧
  (∀ p q, rv_b n w p q → ∀ i, i < n → kn i → p i * (un i : Int) * q (st i) = p (st i) * (ov i : Int) * q i) ∧
  (∀ i j, i < n → j < n → kn i → kn j → rv_e w i j → st i = st j) ∧
  (∀ i, i < n → kn i → K i ∨ st i = s0) ∧
  (∀ i, i < n → kn i → ∃ k, rv_L n w K s0 k i) ∧
  (∀ i, K i → kn i) ∧ kn s0 ∧
  (∀ i j, i < n → j < n → K i → rv_e w i j → K j)
def rv_u {α : Type} (f : Nat → α) (k : Nat) (x : α) : Nat → α := fun j => if j = k then x else f j
theorem rv_us {α : Type} (f : Nat → α) (k : Nat) (x : α) : rv_u f k x k = x := if_pos rfl
theorem rv_un {α : Type} (f : Nat → α) {k j : Nat} (x : α) (h : j ≠ k) : rv_u f k x j = f j := if_neg h
theorem rv_start {n : Nat} {w : Nat → Nat} {K : Nat → Prop} {ov un st : Nat → Nat} {s : Nat} (hs : s < n) (ns : ¬ K s)
    (h1 : ∀ i, i < n → K i → 1 ≤ ov i ∧ ov i ≤ 9 ^ (gr_cnt K n - 1) ∧ 1 ≤ un i ∧ un i ≤ 9 ^ (gr_cnt K n - 1) ∧ st i < n)
    (h2 : ∀ p q, rv_b n w p q → ∀ i, i < n → K i → p i * (un i : Int) * q (st i) = p (st i) * (ov i : Int) * q i)
    (h3 : ∀ i j, i < n → j < n → K i → K j → rv_e w i j → st i = st j)
    (h8 : ∀ i j, i < n → j < n → K i → rv_e w i j → K j) :
    rv_I n w K s (fun i => K i ∨ i = s) (rv_u ov s 1) (rv_u un s 1) (rv_u st s s) := by
  have ne : ∀ i, K i → i ≠ s := fun i hi e => ns (e ▸ hi)
  have mono : gr_cnt K n ≤ gr_cnt (fun i => K i ∨ i = s) n := gr_cnt_mono (fun i _ hi => .inl hi)
  have pw : 9 ^ (gr_cnt K n - 1) ≤ 9 ^ (gr_cnt (fun i => K i ∨ i = s) n - 1) := Nat.pow_le_pow_right (by omega) (by omega)
  have p1 : 1 ≤ 9 ^ (gr_cnt (fun i => K i ∨ i = s) n - 1) := Nat.pow_pos (by omega)
  refine ⟨?_, ?_, ?_, ?_, ?_, fun i hi => .inl hi, .inr rfl, h8⟩
  · intro i hi k
    by_cases e : i = s
    · rw [e, rv_us, rv_us, rv_us]; exact ⟨by omega, p1, by omega, p1, hs⟩
    · rw [rv_un _ _ e, rv_un _ _ e, rv_un _ _ e]
      have k' : K i := k.resolve_right e
      have := h1 i hi k'
      omega
  · intro p q b i hi k
    by_cases e : i = s
    · rw [e, rv_us, rv_us, rv_us]
    · rw [rv_un _ _ e, rv_un _ _ e, rv_un _ _ e]
      exact h2 p q b i hi (k.resolve_right e)
  · intro i j hi hj ki kj e
    by_cases ei : i = s
    · by_cases ej : j = s
      · rw [ei, ej]
      · exact absurd (h8 j i hj hi (kj.resolve_right ej) (rv_sym e)) (by rw [ei]; exact ns)
    · by_cases ej : j = s
      · exact absurd (h8 i j hi hj (ki.resolve_right ei) e) (by rw [ej]; exact ns)
      · rw [rv_un _ _ ei, rv_un _ _ ej]
        exact h3 i j hi hj (ki.resolve_right ei) (kj.resolve_right ej) e
  · intro i _ k
    rcases k with k | e
    · exact .inl k
    · rw [e, rv_us]; exact .inr rfl
  · intro i _ k
    exact ⟨0, k⟩
theorem rv_add {n : Nat} {w : Nat → Nat} (h9 : ∀ k, k < 25 → w k ≤ 9) (hn : n ≤ 5) {K : Nat → Prop} {s0 : Nat} {kn : Nat → Prop} {ov un st : Nat → Nat} (I : rv_I n w K s0 kn ov un st) {i j : Nat} (hi : i < n) (hj : j < n) (ki : kn i) (nj : ¬ kn j) (e : rv_e w i j) :
    rv_I n w K s0 (fun x => kn x ∨ x = j) (rv_u ov j (ov i * w (5 * i + j))) (rv_u un j (un i * w (5 * j + i))) (rv_u st j (st i)) := by
  obtain ⟨a1, a2, a3, a4, a5, a6, a7, a8⟩ := I
  have ne : ∀ x, kn x → x ≠ j := fun x hx q => nj (q ▸ hx)
  have c := gr_cnt_lt (p := kn) (q := fun x => kn x ∨ x = j) (n := n) (fun x _ hx => .inl hx) j hj (.inr rfl) nj
  have c1 := gr_cnt_lt (p := fun _ => False) (q := kn) (n := n) (fun _ _ z => z.elim) i hi ki (fun z => z)
  have pw : 9 ^ (gr_cnt kn n - 1) * 9 ≤ 9 ^ (gr_cnt (fun x => kn x ∨ x = j) n - 1) := by
    rw [← Nat.pow_succ]; exact Nat.pow_le_pow_right (by omega) (by omega)
  have pm : 9 ^ (gr_cnt kn n - 1) ≤ 9 ^ (gr_cnt (fun x => kn x ∨ x = j) n - 1) := Nat.pow_le_pow_right (by omega) (by omega)
  have w1 := h9 (5 * i + j) (by omega)
  have w2 := h9 (5 * j + i) (by omega)
  have e1 := e.1
  have e2 := e.2
  have kj : ¬ K j := fun q => nj (a6 j q)
  have sti : st i = s0 := by
    rcases a4 i hi ki with q | q
    · exact absurd (a8 i j hi hj q e) kj
    · exact q
  have same : ∀ x, x < n → kn x → rv_e w x j → st x = st i := by
    intro x hx kx ex
    rcases a4 x hx kx with q | q
    · exact absurd (a8 x j hx hj q ex) kj
    · rw [q, sti]
  refine ⟨?_, ?_, ?_, ?_, ?_, fun x hx => .inl (a6 x hx), .inl a7, a8⟩
  · intro x hx kx
    by_cases q : x = j
    · rw [q, rv_us, rv_us, rv_us]
      obtain ⟨b1, b2, b3, b4, b5⟩ := a1 i hi ki
      have m1 := Nat.mul_le_mul b2 w1
      have m2 := Nat.mul_le_mul b4 w2
      exact ⟨Nat.mul_pos b1 e1, by omega, Nat.mul_pos b3 e2, by omega, b5⟩
    · rw [rv_un _ _ q, rv_un _ _ q, rv_un _ _ q]
      have := a1 x hx (kx.resolve_right q)
      omega
  · intro p q b x hx kx
    by_cases z : x = j
    · rw [z, rv_us, rv_us, rv_us]
      have f := a2 p q b i hi ki
      have g := b.2 i j hi hj
      have qi := (b.1 i hi).2
      have pi := (b.1 i hi).1
      rw [Int.natCast_mul, Int.natCast_mul]
      have qp := (b.1 j hj).2
      -- q i times both sides agree
      apply ba_cancel qi
      generalize (w (5 * i + j) : Int) = A at *
      generalize (w (5 * j + i) : Int) = B at *
      generalize q (st i) = qs at *
      generalize p (st i) = ps at *
      have t1 : q i * (p j * ((un i : Int) * B) * qs) = (p j * q i * B) * ((un i : Int) * qs) := by grind
      have t2 : q i * (ps * ((ov i : Int) * A) * q j) = (ps * (ov i : Int) * q i) * (A * q j) := by grind
      rw [t1, t2, ← g, ← f]
      grind
    · rw [rv_un _ _ z, rv_un _ _ z, rv_un _ _ z]
      exact a2 p q b x hx (kx.resolve_right z)
  · intro x y hx hy kx ky exy
    by_cases qx : x = j
    · by_cases qy : y = j
      · rw [qx, qy]
      · rw [qx, rv_us, rv_un _ _ qy]
        exact (same y hy (ky.resolve_right qy) (by rw [← qx]; exact rv_sym exy)).symm
    · by_cases qy : y = j
      · rw [qy, rv_us, rv_un _ _ qx]
        exact same x hx (kx.resolve_right qx) (by rw [← qy]; exact exy)
      · rw [rv_un _ _ qx, rv_un _ _ qy]
        exact a3 x y hx hy (kx.resolve_right qx) (ky.resolve_right qy) exy
  · intro x hx kx
    by_cases q : x = j
    · rw [q, rv_us]; exact .inr sti
    · rw [rv_un _ _ q]; exact a4 x hx (kx.resolve_right q)
  · intro x hx kx
    by_cases q : x = j
    · obtain ⟨k, l⟩ := a5 i hi ki
      rw [q]
      exact ⟨k + 1, .inr ⟨fun z => z, i, hi, e, l⟩⟩
    · exact a5 x hx (kx.resolve_right q)
/-- after enough rounds the known states are closed -/
theorem rv_closed {n : Nat} {w : Nat → Nat} {K : Nat → Prop} {s0 : Nat} {kn : Nat → Prop} {ov un st : Nat → Nat} (I : rv_I n w K s0 kn ov un st)
    (all : ∀ i, i < n → rv_L n w K s0 (n - 1) i → kn i) : ∀ i j, i < n → j < n → kn i → rv_e w i j → kn j := by
  intro i j hi hj ki e
  obtain ⟨k, l⟩ := I.2.2.2.2.1 i hi ki
  exact all j hj (gr_L_stab (k + 1) j hj (.inr ⟨fun z => z, i, hi, e, l⟩))
/-- what both classes test in the end -/
theorem rv_fin {n : Nat} {w : Nat → Nat} {ov un st : Nat → Nat}
    (h1 : ∀ i, i < n → 1 ≤ ov i ∧ 1 ≤ un i ∧ st i < n)
    (h2 : ∀ p q, rv_b n w p q → ∀ i, i < n → p i * (un i : Int) * q (st i) = p (st i) * (ov i : Int) * q i)
    (h3 : ∀ i j, i < n → j < n → rv_e w i j → st i = st j) {p q : Nat → Int} (b : rv_b n w p q) {i j : Nat} (hi : i < n) (hj : j < n) :
    (w (5 * i + j) = 0 ∧ w (5 * j + i) = 0) ∨ (st i = st j ∧ (ov i : Int) * (un j : Int) * (w (5 * i + j) : Int) = (ov j : Int) * (un i : Int) * (w (5 * j + i) : Int)) := by
  have g := b.2 i j hi hj
  obtain ⟨pi, qi⟩ := b.1 i hi
  obtain ⟨pj, qj⟩ := b.1 j hj
  rcases Nat.eq_zero_or_pos (w (5 * i + j)) with z | z
  · left
    rw [z] at g
    have g' : p j * q i * (w (5 * j + i) : Int) = 0 := by simpa using g.symm
    have := Int.mul_pos pj qi
    rcases Int.mul_eq_zero.mp g' with y | y
    · omega
    · exact ⟨z, by omega⟩
  · rcases Nat.eq_zero_or_pos (w (5 * j + i)) with y | y
    · exfalso
      rw [y] at g
      have g' : p i * q j * (w (5 * i + j) : Int) = 0 := by simpa using g
      have := Int.mul_pos pi qj
      rcases Int.mul_eq_zero.mp g' with x | x <;> omega
    · right
      have es := h3 i j hi hj ⟨z, y⟩
      refine ⟨es, ?_⟩
      have fi := h2 p q b i hi
      have fj := h2 p q b j hj
      rw [← es] at fj
      obtain ⟨ps, qs⟩ := b.1 (st i) (h1 i hi).2.2
      generalize q (st i) = Q at *
      generalize p (st i) = P at *
      generalize (w (5 * i + j) : Int) = A at *
      generalize (w (5 * j + i) : Int) = B at *
      generalize (ov i : Int) = oi at *
      generalize (ov j : Int) = oj at *
      generalize (un i : Int) = ui at *
      generalize (un j : Int) = uj at *
      have pos : 0 < P * (q i * q j) := Int.mul_pos ps (Int.mul_pos qi qj)
      apply ba_cancel pos
      have t1 : P * (q i * q j) * (oi * uj * A) = (P * oi * q i) * (uj * q j * A) := by grind
      have t2 : P * (q i * q j) * (oj * ui * B) = (P * oj * q j) * (ui * q i * B) := by grind
      rw [t1, t2, ← fi, ← fj]
      have t3 : p i * ui * Q * (uj * q j * A) = (p i * q j * A) * (ui * uj * Q) := by grind
      rw [t3, g]
      grind
