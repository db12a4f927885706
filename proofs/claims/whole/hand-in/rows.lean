section
/-! rows of kit/rows (PURE-ROWS), pasted; then sets of states as numbers -/
theorem pk_us {f : Nat → Int32} {k : Nat} {x : Int32} : upd f k x k = x := if_pos rfl
theorem pk_un {f : Nat → Int32} {k j : Nat} {x : Int32} (h : j ≠ k) : upd f k x j = f j := if_neg h
theorem pk_uLs {f : Nat → Int64} {k : Nat} {x : Int64} : vp_updL f k x k = x := if_pos rfl
theorem pk_uLn {f : Nat → Int64} {k j : Nat} {x : Int64} (h : j ≠ k) : vp_updL f k x j = f j := if_neg h
theorem pk_sub {a b : Nat} (h : b ≤ a) : nI a - nI b = nI (a - b) := by
  obtain ⟨c, rfl⟩ : ∃ c, a = c + b := ⟨a - b, by omega⟩
  rw [← nI_add, Int32.add_sub_cancel, Nat.add_sub_cancel]
theorem pk_m1 (n : Nat) : nI (n + 1) + (-1) = nI n := by
  rw [← nI_1, Int32.add_assoc, show (1 : Int32) + (-1) = 0 from rfl, Int32.add_zero]
theorem pk_mul (a b : Nat) : nI a * nI b = nI (a * b) := (Int32.ofNat_mul a b).symm
theorem pk_div {a d : Nat} (ha : a < 2 ^ 31) (h0 : 0 < d) (hd : d < 2 ^ 31) : nI a / nI d = nI (a / d) := by
  apply Int32.toInt_inj.mp
  rw [lg_idiv_nonneg (by rw [nI_toInt ha]; omega) (by rw [nI_toInt hd]; omega), nI_toInt ha, nI_toInt hd, nI_toInt (Nat.lt_of_le_of_lt (Nat.div_le_self a d) ha)]
  first | rfl | exact (Int.natCast_ediv _ _).symm
theorem pk_rem {a d : Nat} (ha : a < 2 ^ 31) (h0 : 0 < d) (hd : d < 2 ^ 31) : nI a - nI a / nI d * nI d = nI (a % d) := by
  rw [pk_div ha h0 hd, pk_mul, pk_sub (Nat.div_mul_le_self a d)]
  exact congrArg nI (by have := Nat.div_add_mod' a d; omega)
theorem pk_sub_toInt {a b : Nat} (ha : a < 2 ^ 30) (hb : b < 2 ^ 30) : (nI a - nI b).toInt = (a : Int) - b := by
  rw [Int32.toInt_sub, nI_toInt (by omega), nI_toInt (by omega)]
  exact Int.bmod_eq_of_le (by omega) (by omega)
theorem pk_sneg {a b : Nat} (hb : b < 2 ^ 30) (h : a < b) : nI a - nI b < 0 := by
  rw [Int32.lt_iff_toInt_lt, pk_sub_toInt (by omega) hb, show (0 : Int32).toInt = 0 from by decide]
  omega
theorem pk_ix (x : Int32) {n : Nat} (hn : n < 2 ^ 31) : x < 0 ∨ nI n ≤ x ∨ ∃ j : Nat, j < n ∧ x = nI j := by
  by_cases h : x < 0
  · exact Or.inl h
  · obtain ⟨j, hj, rfl⟩ := nI_of h
    by_cases h2 : j < n
    · exact Or.inr (Or.inr ⟨j, h2, rfl⟩)
    · exact Or.inr (Or.inl (nI_le (by omega) hj))
theorem pk_le {x y : Int32} {A B : Prop} (a b : Nat) (f : a ≤ b → A) (g : b < a → B) (hx : x = nI a := by rfl) (hy : y = nI b := by rfl) (ha : a < 2 ^ 31 := by omega) (hb : b < 2 ^ 31 := by omega) : (x ≤ y → A) ∧ (¬ x ≤ y → B) := by
  subst hx hy
  rw [nI_leI ha hb]
  exact ⟨f, fun z => g (by omega)⟩
theorem pk_lt {x y : Int32} {A B : Prop} (a b : Nat) (f : a < b → A) (g : b ≤ a → B) (hx : x = nI a := by rfl) (hy : y = nI b := by rfl) (ha : a < 2 ^ 31 := by omega) (hb : b < 2 ^ 31 := by omega) : (x < y → A) ∧ (¬ x < y → B) := by
  subst hx hy
  rw [nI_ltI ha hb]
  exact ⟨f, fun z => g (by omega)⟩
theorem pk_eq {x y : Int32} {A B : Prop} (a b : Nat) (f : a = b → A) (g : a ≠ b → B) (hx : x = nI a := by rfl) (hy : y = nI b := by rfl) (ha : a < 2 ^ 31 := by omega) (hb : b < 2 ^ 31 := by omega) : (x = y → A) ∧ (¬ x = y → B) := by
  subst hx hy
  rw [nI_eq ha hb]
  exact ⟨f, g⟩
theorem pk_in {x : Int32} (n N : Nat) (h : n < N) (hx : x = nI n := by rfl) (hN : N < 2 ^ 31 := by omega) : vp_in x N := by
  subst hx
  exact vp_in_nI h hN
theorem pk_cl {x : Int32} (n : Nat) (hx : x = nI n := by rfl) (h : n < 2 ^ 31 := by omega) : x.toNatClampNeg = n := by
  subst hx
  exact nI_clamp h
theorem pk_lT {n : Nat} (h : n < 2 ^ 63) : (lN n).toInt = (n : Int) := lg_ofNat_toInt h
theorem pk_lLT {a b : Nat} (ha : a < 2 ^ 63) (hb : b < 2 ^ 63) : lN a < lN b ↔ a < b := by
  rw [Int64.lt_iff_toInt_lt, pk_lT ha, pk_lT hb]; omega
theorem pk_lLE {a b : Nat} (ha : a < 2 ^ 63) (hb : b < 2 ^ 63) : lN a ≤ lN b ↔ a ≤ b := by
  rw [Int64.le_iff_toInt_le, pk_lT ha, pk_lT hb]; omega
theorem pk_lEQ {a b : Nat} (ha : a < 2 ^ 63) (hb : b < 2 ^ 63) : lN a = lN b ↔ a = b := by
  rw [← Int64.toInt_inj, pk_lT ha, pk_lT hb]; omega
theorem pk_lOf {x : Int64} (h : ¬ x < 0) : ∃ k : Nat, k < 2 ^ 63 ∧ x = lN k := by
  rw [Int64.lt_iff_toInt_lt] at h
  have h0 : (0 : Int64).toInt = 0 := by decide
  have hx := Int64.toInt_lt x
  refine ⟨x.toInt.toNat, by omega, Int64.toInt_inj.mp ?_⟩
  rw [pk_lT (by omega)]
  omega
theorem pk_lDiv {a b : Nat} (ha : a < 2 ^ 63) (h0 : 0 < b) (hb : b < 2 ^ 63) : lN a / lN b = lN (a / b) := by
  apply Int64.toInt_inj.mp
  rw [lg_ldiv_nonneg (by rw [pk_lT ha]; omega) (by rw [pk_lT hb]; omega), pk_lT ha, pk_lT hb, pk_lT (Nat.lt_of_le_of_lt (Nat.div_le_self a b) ha)]
  rfl
theorem pk_lRem {a b : Nat} (ha : a < 2 ^ 63) (h0 : 0 < b) (hb : b < 2 ^ 63) : lN a - lN a / lN b * lN b = lN (a % b) := by
  rw [pk_lDiv ha h0 hb, lN_mul, lN_sub (Nat.div_mul_le_self a b)]
  exact congrArg lN (by have := Nat.div_add_mod' a b; omega)
theorem pk_loop {σ : Type} (W : Nat → Nat → σ → Prop) (I : Nat → σ → Prop) (e i0 : Nat) (s : σ) (hi : i0 ≤ e) (h0 : I i0 s) (hx : ∀ n s, I e s → W (n + 1) e s)
    (hs : ∀ n i s, i < e → I i s → (∀ s', I (i + 1) s' → W n (i + 1) s') → W (n + 1) i s) : ∃ n, W n i0 s :=
  ⟨e + 1, loop_i W I e hx hs (e + 1) i0 s hi (by omega) h0⟩
theorem pk_loopD {σ : Type} (W : Nat → Nat → σ → Prop) (I : Nat → σ → Prop) (hx : ∀ n s, I 0 s → W (n + 1) 0 s)
    (hs : ∀ n i s, I (i + 1) s → (∀ s', I i s' → W n i s') → W (n + 1) (i + 1) s) : ∀ (e : Nat) (s : σ), I e s → W (e + 1) e s := by
  intro e
  induction e with
  | zero => exact fun s h => hx 0 s h
  | succ e ih => exact fun s h => hs (e + 1) e s h (fun s' h' => ih s' h')
theorem bm_and (a b : Nat) : nI a &&& nI b = nI (a &&& b) := by
  apply Int32.toBitVec_inj.1
  show BitVec.ofNat 32 a &&& BitVec.ofNat 32 b = BitVec.ofNat 32 (a &&& b)
  apply BitVec.eq_of_getLsbD_eq
  intro i hi
  simp [hi]
theorem bm_or (a b : Nat) : nI a ||| nI b = nI (a ||| b) := by
  apply Int32.toBitVec_inj.1
  show BitVec.ofNat 32 a ||| BitVec.ofNat 32 b = BitVec.ofNat 32 (a ||| b)
  apply BitVec.eq_of_getLsbD_eq
  intro i hi
  simp [hi]
theorem bm_not : ∀ a, a < 32 → ∀ b, b < 32 → nI a &&& (nI b ^^^ (-1)) = nI (a &&& (31 ^^^ b)) := by decide +kernel
theorem bm_shl : ∀ i, i < 6 → (1 : Int32) <<< (nI i &&& 31) = nI (2 ^ i) := by decide +kernel
theorem bm_bit : ∀ m, m < 32 → ∀ i, i < 5 → ((nI m >>> (nI i &&& 31)) &&& 1) = if m.testBit i = true then 1 else 0 := by decide +kernel
def bm_is (n m : Nat) (p : Nat → Prop) : Prop := m < 2 ^ n ∧ ∀ i, i < n → (m.testBit i = true ↔ p i)
theorem bm_hi {n m : Nat} (h : m < 2 ^ n) {i : Nat} (hi : n ≤ i) : m.testBit i = false :=
  Nat.testBit_lt_two_pow (Nat.lt_of_lt_of_le h (Nat.pow_le_pow_right (by omega) hi))
theorem bm_ext {n m m' : Nat} {p p' : Nat → Prop} (h : bm_is n m p) (h' : bm_is n m' p') (e : ∀ i, i < n → (p i ↔ p' i)) : m = m' := by
  apply Nat.eq_of_testBit_eq
  intro i
  rcases Nat.lt_or_ge i n with q | q
  · rw [Bool.eq_iff_iff, h.2 i q, h'.2 i q, e i q]
  · rw [bm_hi h.1 q, bm_hi h'.1 q]
theorem bm_iff {n m : Nat} {p p' : Nat → Prop} (h : bm_is n m p) (e : ∀ i, i < n → (p i ↔ p' i)) : bm_is n m p' :=
  ⟨h.1, fun i hi => (h.2 i hi).trans (e i hi)⟩
theorem bm_lt {n m : Nat} {p : Nat → Prop} (h : bm_is n m p) (hn : n ≤ 5) : m < 32 :=
  Nat.lt_of_lt_of_le h.1 (Nat.pow_le_pow_right (by omega) hn)
theorem bm_zero (n : Nat) : bm_is n 0 (fun _ => False) := ⟨Nat.two_pow_pos n, fun i _ => by simp⟩
theorem bm_one {n j : Nat} (hj : j < n) : bm_is n (2 ^ j) (fun i => i = j) := by
  refine ⟨Nat.pow_lt_pow_right (by omega) hj, fun i _ => ?_⟩
  rw [Nat.testBit_two_pow]
  simp [eq_comm]
theorem bm_or2 {n a b : Nat} {p q : Nat → Prop} (ha : bm_is n a p) (hb : bm_is n b q) : bm_is n (a ||| b) (fun i => p i ∨ q i) := by
  refine ⟨Nat.or_lt_two_pow ha.1 hb.1, fun i hi => ?_⟩
  rw [Nat.testBit_or, Bool.or_eq_true, ha.2 i hi, hb.2 i hi]
theorem bm_and2 {n a b : Nat} {p q : Nat → Prop} (ha : bm_is n a p) (hb : bm_is n b q) : bm_is n (a &&& b) (fun i => p i ∧ q i) := by
  refine ⟨Nat.and_lt_two_pow _ hb.1, fun i hi => ?_⟩
  rw [Nat.testBit_and, Bool.and_eq_true, ha.2 i hi, hb.2 i hi]
theorem bm_31 : ∀ i, i < 5 → Nat.testBit 31 i = true := by decide
theorem bm_diff {n a b : Nat} {p q : Nat → Prop} (hn : n ≤ 5) (ha : bm_is n a p) (hb : bm_is n b q) : bm_is n (a &&& (31 ^^^ b)) (fun i => p i ∧ ¬ q i) := by
  refine ⟨Nat.lt_of_le_of_lt Nat.and_le_left ha.1, fun i hi => ?_⟩
  rw [Nat.testBit_and, Nat.testBit_xor, bm_31 i (by omega), Bool.and_eq_true, ha.2 i hi]
  constructor
  · rintro ⟨x, y⟩
    refine ⟨x, fun z => ?_⟩
    rw [(hb.2 i hi).mpr z] at y
    cases y
  · rintro ⟨x, y⟩
    refine ⟨x, ?_⟩
    cases e : b.testBit i
    · rfl
    · exact absurd ((hb.2 i hi).mp e) y
theorem bm_ne0 {n m : Nat} {p : Nat → Prop} (h : bm_is n m p) : m ≠ 0 ↔ ∃ i, i < n ∧ p i := by
  constructor
  · intro hm
    apply Classical.byContradiction
    intro no
    apply hm
    exact bm_ext h (bm_zero n) (fun i hi => ⟨fun x => no ⟨i, hi, x⟩, fun x => x.elim⟩)
  · rintro ⟨i, hi, x⟩ e
    have := (h.2 i hi).mpr x
    rw [e] at this
    simp at this
end
section
/-! minors of order two, three, four; the tower of fraction-free elimination -/
def ba_d2 (a b c d : Int) : Int := a * d - b * c
def ba_d3 (a b c d e f g h i : Int) : Int := a * ba_d2 e f h i - b * ba_d2 d f g i + c * ba_d2 d e g h
def ba_d4 (a b c d e f g h i j k l m n o p : Int) : Int := a * ba_d3 f g h j k l n o p - b * ba_d3 e g h i k l m o p + c * ba_d3 e f h i j l m n p - d * ba_d3 e f g i j k m n o
def ba_F (N : Nat → Nat → Int) : List Nat → Nat → (Nat → Int) → Int
  | [], s, v => v s
  | [p], s, v => if s = p then v p else ba_d2 (N p p) (v p) (N s p) (v s)
  | [p, q], s, v => if s = p then ba_d2 (v p) (N p q) (v q) (N q q) else if s = q then ba_d2 (N p p) (v p) (N q p) (v q) else ba_d3 (N p p) (N p q) (v p) (N q p) (N q q) (v q) (N s p) (N s q) (v s)
  | [p, q, r], s, v => if s = p then ba_d3 (v p) (N p q) (N p r) (v q) (N q q) (N q r) (v r) (N r q) (N r r) else if s = q then ba_d3 (N p p) (v p) (N p r) (N q p) (v q) (N q r) (N r p) (v r) (N r r) else if s = r then ba_d3 (N p p) (N p q) (v p) (N q p) (N q q) (v q) (N r p) (N r q) (v r) else ba_d4 (N p p) (N p q) (N p r) (v p) (N q p) (N q q) (N q r) (v q) (N r p) (N r q) (N r r) (v r) (N s p) (N s q) (N s r) (v s)
  | [p, q, r, t], s, v => if s = p then ba_d4 (v p) (N p q) (N p r) (N p t) (v q) (N q q) (N q r) (N q t) (v r) (N r q) (N r r) (N r t) (v t) (N t q) (N t r) (N t t) else if s = q then ba_d4 (N p p) (v p) (N p r) (N p t) (N q p) (v q) (N q r) (N q t) (N r p) (v r) (N r r) (N r t) (N t p) (v t) (N t r) (N t t) else if s = r then ba_d4 (N p p) (N p q) (v p) (N p t) (N q p) (N q q) (v q) (N q t) (N r p) (N r q) (v r) (N r t) (N t p) (N t q) (v t) (N t t) else if s = t then ba_d4 (N p p) (N p q) (N p r) (v p) (N q p) (N q q) (N q r) (v q) (N r p) (N r q) (N r r) (v r) (N t p) (N t q) (N t r) (v t) else 0
  | _, _, _ => 0
def ba_D (N : Nat → Nat → Int) : List Nat → Int
  | [] => 1
  | [p] => N p p
  | [p, q] => ba_d2 (N p p) (N p q) (N q p) (N q q)
  | [p, q, r] => ba_d3 (N p p) (N p q) (N p r) (N q p) (N q q) (N q r) (N r p) (N r q) (N r r)
  | [p, q, r, t] => ba_d4 (N p p) (N p q) (N p r) (N p t) (N q p) (N q q) (N q r) (N q t) (N r p) (N r q) (N r r) (N r t) (N t p) (N t q) (N t r) (N t t)
  | _ => 0
theorem ba_i1p (pp pv pq qv qq qp : Int) : pp * (ba_d2 pv pq qv qq) = (ba_d2 pp pq qp qq) * pv - pq * (ba_d2 pp pv qp qv) := by
  simp only [ba_d4, ba_d3, ba_d2]; grobner
theorem ba_i1s (pp pq pv qp qq qv sp sq sv : Int) : pp * (ba_d3 pp pq pv qp qq qv sp sq sv) = (ba_d2 pp pq qp qq) * (ba_d2 pp pv sp sv) - (ba_d2 pp pq sp sq) * (ba_d2 pp pv qp qv) := by
  simp only [ba_d4, ba_d3, ba_d2]; grobner
theorem ba_i2p (pp pq qp qq pv pr qv qr rv rq rr rp : Int) : (ba_d2 pp pq qp qq) * (ba_d3 pv pq pr qv qq qr rv rq rr) = (ba_d3 pp pq pr qp qq qr rp rq rr) * (ba_d2 pv pq qv qq) - (ba_d2 pr pq qr qq) * (ba_d3 pp pq pv qp qq qv rp rq rv) := by
  simp only [ba_d4, ba_d3, ba_d2]; grobner
theorem ba_i2q (pp pq qp qq pv pr qv qr rp rv rr rq : Int) : (ba_d2 pp pq qp qq) * (ba_d3 pp pv pr qp qv qr rp rv rr) = (ba_d3 pp pq pr qp qq qr rp rq rr) * (ba_d2 pp pv qp qv) - (ba_d2 pp pr qp qr) * (ba_d3 pp pq pv qp qq qv rp rq rv) := by
  simp only [ba_d4, ba_d3, ba_d2]; grobner
theorem ba_i2s (pp pq qp qq pr pv qr qv rp rq rr rv sp sq sr sv : Int) : (ba_d2 pp pq qp qq) * (ba_d4 pp pq pr pv qp qq qr qv rp rq rr rv sp sq sr sv) = (ba_d3 pp pq pr qp qq qr rp rq rr) * (ba_d3 pp pq pv qp qq qv sp sq sv) - (ba_d3 pp pq pr qp qq qr sp sq sr) * (ba_d3 pp pq pv qp qq qv rp rq rv) := by
  simp only [ba_d4, ba_d3, ba_d2]; grobner
theorem ba_i3p (pp pq pr qp qq qr rp rq rr pv pt qv qt rv rt tv tq tr tt tp : Int) : (ba_d3 pp pq pr qp qq qr rp rq rr) * (ba_d4 pv pq pr pt qv qq qr qt rv rq rr rt tv tq tr tt) = (ba_d4 pp pq pr pt qp qq qr qt rp rq rr rt tp tq tr tt) * (ba_d3 pv pq pr qv qq qr rv rq rr) - (ba_d3 pt pq pr qt qq qr rt rq rr) * (ba_d4 pp pq pr pv qp qq qr qv rp rq rr rv tp tq tr tv) := by
  simp only [ba_d4, ba_d3, ba_d2]; grobner
theorem ba_i3q (pp pq pr qp qq qr rp rq rr pv pt qv qt rv rt tp tv tr tt tq : Int) : (ba_d3 pp pq pr qp qq qr rp rq rr) * (ba_d4 pp pv pr pt qp qv qr qt rp rv rr rt tp tv tr tt) = (ba_d4 pp pq pr pt qp qq qr qt rp rq rr rt tp tq tr tt) * (ba_d3 pp pv pr qp qv qr rp rv rr) - (ba_d3 pp pt pr qp qt qr rp rt rr) * (ba_d4 pp pq pr pv qp qq qr qv rp rq rr rv tp tq tr tv) := by
  simp only [ba_d4, ba_d3, ba_d2]; grobner
theorem ba_i3r (pp pq pr qp qq qr rp rq rr pv pt qv qt rv rt tp tq tv tt tr : Int) : (ba_d3 pp pq pr qp qq qr rp rq rr) * (ba_d4 pp pq pv pt qp qq qv qt rp rq rv rt tp tq tv tt) = (ba_d4 pp pq pr pt qp qq qr qt rp rq rr rt tp tq tr tt) * (ba_d3 pp pq pv qp qq qv rp rq rv) - (ba_d3 pp pq pt qp qq qt rp rq rt) * (ba_d4 pp pq pr pv qp qq qr qv rp rq rr rv tp tq tr tv) := by
  simp only [ba_d4, ba_d3, ba_d2]; grobner
theorem ba_stepD (N : Nat → Nat → Int) (P : List Nat) (p : Nat) (hl : P.length ≤ 3) (hn : p ∉ P) : ba_D N (P ++ [p]) = ba_F N P p (fun t => N t p) := by
  match P, hl, hn with
  | [], _, _ => rfl
  | [a], _, hn =>
    have h1 : p ≠ a := by simpa using hn
    simp [ba_D, ba_F, h1]
  | [a, b], _, hn =>
    have h1 : p ≠ a ∧ p ≠ b := by simpa using hn
    simp [ba_D, ba_F, h1]
  | [a, b, c], _, hn =>
    have h1 : p ≠ a ∧ p ≠ b ∧ p ≠ c := by simpa using hn
    simp [ba_D, ba_F, h1]
theorem ba_stepP (N : Nat → Nat → Int) (P : List Nat) (p : Nat) (v : Nat → Int) (hl : P.length ≤ 3) (hn : p ∉ P) : ba_F N (P ++ [p]) p v = ba_F N P p v := by
  match P, hl, hn with
  | [], _, _ => simp [ba_F]
  | [a], _, hn =>
    have h1 : p ≠ a := by simpa using hn
    simp [ba_F, h1]
  | [a, b], _, hn =>
    have h1 : p ≠ a ∧ p ≠ b := by simpa using hn
    simp [ba_F, h1]
  | [a, b, c], _, hn =>
    have h1 : p ≠ a ∧ p ≠ b ∧ p ≠ c := by simpa using hn
    simp [ba_F, h1]
theorem ba_step0 (N : Nat → Nat → Int) (p s : Nat) (v : Nat → Int) (hs : s ≠ p) : ba_D N [] * ba_F N [p] s v = ba_F N [] p (fun t => N t p) * ba_F N [] s v - ba_F N [] s (fun t => N t p) * ba_F N [] p v := by
  simp [ba_D, ba_F, hs, ba_d2]; grobner
theorem ba_step1 (N : Nat → Nat → Int) (a p s : Nat) (v : Nat → Int) (hap : p ≠ a) (hs : s ≠ p) : ba_D N [a] * ba_F N [a, p] s v = ba_F N [a] p (fun t => N t p) * ba_F N [a] s v - ba_F N [a] s (fun t => N t p) * ba_F N [a] p v := by
  by_cases ea : s = a
  · subst ea
    simp only [ba_D, ba_F, hap, Ne.symm hap, hs, if_true, if_false, ite_true, ite_false, ne_eq, not_false_eq_true, reduceIte]
    exact ba_i1p (N s s) (v s) (N s p) (v p) (N p p) (N p s)
  simp only [ba_D, ba_F, hap, Ne.symm hap, ea, hs, if_true, if_false, ite_true, ite_false, ne_eq, not_false_eq_true, reduceIte]
  exact ba_i1s (N a a) (N a p) (v a) (N p a) (N p p) (v p) (N s a) (N s p) (v s)
theorem ba_step2 (N : Nat → Nat → Int) (a b p s : Nat) (v : Nat → Int) (hab : b ≠ a) (hap : p ≠ a) (hbp : p ≠ b) (hs : s ≠ p) : ba_D N [a, b] * ba_F N [a, b, p] s v = ba_F N [a, b] p (fun t => N t p) * ba_F N [a, b] s v - ba_F N [a, b] s (fun t => N t p) * ba_F N [a, b] p v := by
  by_cases ea : s = a
  · subst ea
    simp only [ba_D, ba_F, hab, hap, hbp, Ne.symm hab, Ne.symm hap, Ne.symm hbp, hs, if_true, if_false, ite_true, ite_false, ne_eq, not_false_eq_true, reduceIte]
    exact ba_i2p (N s s) (N s b) (N b s) (N b b) (v s) (N s p) (v b) (N b p) (v p) (N p b) (N p p) (N p s)
  by_cases eb : s = b
  · subst eb
    simp only [ba_D, ba_F, hab, hap, hbp, Ne.symm hab, Ne.symm hap, Ne.symm hbp, hs, if_true, if_false, ite_true, ite_false, ne_eq, not_false_eq_true, reduceIte]
    exact ba_i2q (N a a) (N a s) (N s a) (N s s) (v a) (N a p) (v s) (N s p) (N p a) (v p) (N p p) (N p s)
  simp only [ba_D, ba_F, hab, hap, hbp, Ne.symm hab, Ne.symm hap, Ne.symm hbp, ea, eb, hs, if_true, if_false, ite_true, ite_false, ne_eq, not_false_eq_true, reduceIte]
  exact ba_i2s (N a a) (N a b) (N b a) (N b b) (N a p) (v a) (N b p) (v b) (N p a) (N p b) (N p p) (v p) (N s a) (N s b) (N s p) (v s)
theorem ba_step3 (N : Nat → Nat → Int) (a b c p s : Nat) (v : Nat → Int) (hab : b ≠ a) (hac : c ≠ a) (hbc : c ≠ b) (hap : p ≠ a) (hbp : p ≠ b) (hcp : p ≠ c) (hs : s ≠ p) (h4 : s = a ∨ s = b ∨ s = c) : ba_D N [a, b, c] * ba_F N [a, b, c, p] s v = ba_F N [a, b, c] p (fun t => N t p) * ba_F N [a, b, c] s v - ba_F N [a, b, c] s (fun t => N t p) * ba_F N [a, b, c] p v := by
  by_cases ea : s = a
  · subst ea
    simp only [ba_D, ba_F, hab, hac, hbc, hap, hbp, hcp, Ne.symm hab, Ne.symm hac, Ne.symm hbc, Ne.symm hap, Ne.symm hbp, Ne.symm hcp, hs, if_true, if_false, ite_true, ite_false, ne_eq, not_false_eq_true, reduceIte]
    exact ba_i3p (N s s) (N s b) (N s c) (N b s) (N b b) (N b c) (N c s) (N c b) (N c c) (v s) (N s p) (v b) (N b p) (v c) (N c p) (v p) (N p b) (N p c) (N p p) (N p s)
  by_cases eb : s = b
  · subst eb
    simp only [ba_D, ba_F, hab, hac, hbc, hap, hbp, hcp, Ne.symm hab, Ne.symm hac, Ne.symm hbc, Ne.symm hap, Ne.symm hbp, Ne.symm hcp, hs, if_true, if_false, ite_true, ite_false, ne_eq, not_false_eq_true, reduceIte]
    exact ba_i3q (N a a) (N a s) (N a c) (N s a) (N s s) (N s c) (N c a) (N c s) (N c c) (v a) (N a p) (v s) (N s p) (v c) (N c p) (N p a) (v p) (N p c) (N p p) (N p s)
  by_cases ec : s = c
  · subst ec
    simp only [ba_D, ba_F, hab, hac, hbc, hap, hbp, hcp, Ne.symm hab, Ne.symm hac, Ne.symm hbc, Ne.symm hap, Ne.symm hbp, Ne.symm hcp, hs, if_true, if_false, ite_true, ite_false, ne_eq, not_false_eq_true, reduceIte]
    exact ba_i3r (N a a) (N a b) (N a s) (N b a) (N b b) (N b s) (N s a) (N s b) (N s s) (v a) (N a p) (v b) (N b p) (v s) (N s p) (N p a) (N p b) (v p) (N p p) (N p s)
  exact absurd h4 (by simp [ea, eb, ec])
theorem ba_step (N : Nat → Nat → Int) (P : List Nat) (p s : Nat) (v : Nat → Int) (hl : P.length ≤ 3) (hd : P.Nodup) (hn : p ∉ P) (hs : s ≠ p) (h4 : P.length = 3 → s ∈ P) : ba_D N P * ba_F N (P ++ [p]) s v = ba_F N P p (fun t => N t p) * ba_F N P s v - ba_F N P s (fun t => N t p) * ba_F N P p v := by
  match P, hl, hd, hn, h4 with
  | [], _, _, _, _ => exact ba_step0 N p s v hs
  | [a], _, _, hn, _ =>
    have h1 : p ≠ a := by simpa using hn
    exact ba_step1 N a p s v h1 hs
  | [a, b], _, hd, hn, _ =>
    have h1 : p ≠ a ∧ p ≠ b := by simpa using hn
    have h2 : a ≠ b := by simpa using hd
    exact ba_step2 N a b p s v (Ne.symm h2) h1.1 h1.2 hs
  | [a, b, c], _, hd, hn, h4 =>
    have h1 : p ≠ a ∧ p ≠ b ∧ p ≠ c := by simpa using hn
    have h2 : (¬ a = b ∧ ¬ a = c) ∧ ¬ b = c := by simpa using hd
    exact ba_step3 N a b c p s v (Ne.symm h2.1.1) (Ne.symm h2.1.2) (Ne.symm h2.2) h1.1 h1.2.1 h1.2.2 hs (by simpa using h4 rfl)
end
section
/-! finite sums of integers -/
def ba_S (f : Nat → Int) : Nat → Int
  | 0 => 0
  | n + 1 => ba_S f n + f n
theorem ba_S_congr {f g : Nat → Int} {n : Nat} (h : ∀ c, c < n → f c = g c) : ba_S f n = ba_S g n := by
  induction n with
  | zero => rfl
  | succ n ih =>
    simp only [ba_S]
    rw [ih (fun c hc => h c (by omega)), h n (by omega)]
theorem ba_S_add (f g : Nat → Int) (n : Nat) : ba_S (fun c => f c + g c) n = ba_S f n + ba_S g n := by
  induction n with
  | zero => rfl
  | succ n ih => simp only [ba_S]; rw [ih]; omega
theorem ba_S_mul (b : Int) (f : Nat → Int) (n : Nat) : ba_S (fun c => b * f c) n = b * ba_S f n := by
  induction n with
  | zero => simp [ba_S]
  | succ n ih => simp only [ba_S]; rw [ih, Int.mul_add]
theorem ba_S_le {f g : Nat → Int} {n : Nat} (h : ∀ c, c < n → f c ≤ g c) : ba_S f n ≤ ba_S g n := by
  induction n with
  | zero => exact Int.le_refl _
  | succ n ih =>
    simp only [ba_S]
    exact Int.add_le_add (ih (fun c hc => h c (by omega))) (h n (by omega))
theorem ba_S_zero {f : Nat → Int} {n : Nat} (h : ∀ c, c < n → f c = 0) : ba_S f n = 0 := by
  induction n with
  | zero => rfl
  | succ n ih =>
    simp only [ba_S]
    rw [ih (fun c hc => h c (by omega)), h n (by omega)]; rfl
theorem ba_S_nonneg {f : Nat → Int} {n : Nat} (h : ∀ c, c < n → 0 ≤ f c) : 0 ≤ ba_S f n := by
  induction n with
  | zero => exact Int.le_refl _
  | succ n ih =>
    simp only [ba_S]
    exact Int.add_nonneg (ih (fun c hc => h c (by omega))) (h n (by omega))
theorem ba_S_one {f : Nat → Int} {n p : Nat} (hp : p < n) (h : ∀ c, c < n → c ≠ p → f c = 0) : ba_S f n = f p := by
  induction n with
  | zero => omega
  | succ n ih =>
    simp only [ba_S]
    by_cases e : p = n
    · subst e
      rw [ba_S_zero (fun c hc => h c (by omega) (by omega))]; omega
    · rw [ih (by omega) (fun c hc hn => h c (by omega) hn), h n (by omega) (by omega)]; omega
theorem ba_S_top {f : Nat → Int} {n p : Nat} (hp : p < n) (h : ∀ c, c < n → c ≠ p → f c ≤ 0) : ba_S f n ≤ f p := by
  have h1 : ba_S f n ≤ ba_S (fun c => if c = p then f c else 0) n := by
    apply ba_S_le
    intro c hc
    by_cases e : c = p
    · simp [e]
    · simp only [e, if_false]; exact h c hc e
  have h2 : ba_S (fun c => if c = p then f c else 0) n = f p := by
    rw [ba_S_one hp (fun c _ hn => by simp [hn])]; simp
  omega
theorem ba_S_ge1 {f : Nat → Int} {n p : Nat} (hp : p < n) (h : ∀ c, c < n → 0 ≤ f c) : f p ≤ ba_S f n := by
  have h1 : ba_S (fun c => if c = p then f c else 0) n ≤ ba_S f n := by
    apply ba_S_le
    intro c hc
    by_cases e : c = p
    · simp [e]
    · simp only [e, if_false]; exact h c hc
  have h2 : ba_S (fun c => if c = p then f c else 0) n = f p := by
    rw [ba_S_one hp (fun c _ hn => by simp [hn])]; simp
  omega
/-! what holds after the unknown states below k have been cleared -/
def ba_T (n : Nat) (U : Nat → Bool) (N : Nat → Nat → Int) (g : Nat → Int) (k : Nat) (F : Nat → (Nat → Int) → Int) (D : Int) : Prop :=
  0 < D ∧
  (∀ s, s < n → U s = true → ∀ (v u : Nat → Int) (b : Int), F s (fun t => v t + b * u t) = F s v + b * F s u) ∧
  (∀ s, s < n → U s = true → ∀ v u : Nat → Int, (∀ t, t < n → U t = true → v t = u t) → F s v = F s u) ∧
  (∀ s, s < n → U s = true → ∀ c, c < k → U c = true → F s (fun t => N t c) = if s = c then D else 0) ∧
  (∀ s, s < n → U s = true → ∀ c, k ≤ c → c < n → U c = true → c ≠ s → F s (fun t => N t c) ≤ 0) ∧
  (∀ s, k ≤ s → s < n → U s = true → 0 < F s g) ∧
  (∀ s, k ≤ s → s < n → U s = true → F s (fun t => N t s) ≤ N s s * D) ∧
  (∀ s, s < n → U s = true → ∀ v : Nat → Int, (∀ t, t < n → U t = true → 0 ≤ v t) → 0 ≤ F s v) ∧
  (∀ s, s < n → U s = true → ∀ v : Nat → Int, D * v s = ba_S (fun c => (if c < k ∧ U c = true then N s c else 0) * F c v) n + if s < k then 0 else F s v)
theorem ba_T0 {n : Nat} {U : Nat → Bool} {N : Nat → Nat → Int} {g : Nat → Int}
    (hM : ∀ s, s < n → U s = true → ∀ c, c < n → U c = true → c ≠ s → N s c ≤ 0)
    (hg : ∀ s, s < n → U s = true → 0 < g s) : ba_T n U N g 0 (fun s v => v s) 1 := by
  refine ⟨by decide, fun s _ _ v u b => rfl, fun s hs us v u h => h s hs us, fun s _ _ c hc => absurd hc (by omega), fun s hs us c _ hc uc hn => hM s hs us c hc uc hn, fun s _ hs us => hg s hs us, fun s _ _ _ => by show N s s ≤ N s s * 1; omega, fun s hs us v h => h s hs us, fun s _ _ v => ?_⟩
  rw [ba_S_zero (fun c _ => by simp)]
  simp
theorem ba_Tskip {n : Nat} {U : Nat → Bool} {N : Nat → Nat → Int} {g : Nat → Int} {k : Nat} {F : Nat → (Nat → Int) → Int} {D : Int}
    (h : ba_T n U N g k F D) (hk : U k = false) : ba_T n U N g (k + 1) F D := by
  obtain ⟨h1, h2, h3, h4, h5, h6, h7, h8, h9⟩ := h
  have ne : ∀ c, U c = true → c ≠ k := fun c uc e => by rw [e, hk] at uc; cases uc
  refine ⟨h1, h2, h3, fun s hs us c hc uc => h4 s hs us c (by have := ne c uc; omega) uc, fun s hs us c hc hn uc hx => h5 s hs us c (by omega) hn uc hx, fun s hs hn us => h6 s (by omega) hn us, fun s hs hn us => h7 s (by omega) hn us, h8, fun s hs us v => ?_⟩
  have e1 := h9 s hs us v
  have e2 : ba_S (fun c => (if c < k + 1 ∧ U c = true then N s c else 0) * F c v) n = ba_S (fun c => (if c < k ∧ U c = true then N s c else 0) * F c v) n := by
    apply ba_S_congr
    intro c _
    by_cases uc : U c = true
    · have := ne c uc
      have e : (c < k + 1) = (c < k) := by
        apply propext
        constructor <;> intro <;> omega
      simp only [e]
    · simp [uc]
  have e3 : (if s < k + 1 then 0 else F s v) = (if s < k then 0 else F s v) := by
    have := ne s us
    by_cases z : s < k
    · rw [if_pos z, if_pos (by omega)]
    · rw [if_neg z, if_neg (by omega)]
  rw [e2, e3]; exact e1
theorem ba_lin0 {F : (Nat → Int) → Int} (h : ∀ (v u : Nat → Int) (b : Int), F (fun t => v t + b * u t) = F v + b * F u) : F (fun _ => 0) = 0 := by
  have e := h (fun _ => 0) (fun _ => 0) 1
  have e2 : (fun t : Nat => (fun _ => (0 : Int)) t + 1 * (fun _ => (0 : Int)) t) = fun _ => 0 := by funext t; rfl
  rw [e2] at e; omega
theorem ba_linS {F : (Nat → Int) → Int} (h : ∀ (v u : Nat → Int) (b : Int), F (fun t => v t + b * u t) = F v + b * F u) (x : Nat → Int) (M : Nat → Nat → Int) : ∀ n, F (fun t => ba_S (fun c => x c * M t c) n) = ba_S (fun c => x c * F (fun t => M t c)) n := by
  intro n
  induction n with
  | zero => exact ba_lin0 h
  | succ n ih =>
    have e := h (fun t => ba_S (fun c => x c * M t c) n) (fun t => M t n) (x n)
    simp only [ba_S]
    rw [e, ih]
theorem ba_piv {n : Nat} {U : Nat → Bool} {N : Nat → Nat → Int} {x : Nat → Int} {k : Nat} {F : Nat → (Nat → Int) → Int} {D : Int}
    (h : ba_T n U N (fun t => ba_S (fun c => (if U c = true then x c else 0) * N t c) n) k F D) (hx : ∀ c, c < n → U c = true → 0 < x c) (hk : k < n) (uk : U k = true) : 0 < F k (fun t => N t k) := by
  obtain ⟨h1, h2, h3, h4, h5, h6, h7, h8, h9⟩ := h
  have a := h6 k (by omega) hk uk
  rw [ba_linS (h2 k hk uk) (fun c => if U c = true then x c else 0) N n] at a
  have b : ba_S (fun c => (if U c = true then x c else 0) * F k (fun t => N t c)) n ≤ (if U k = true then x k else 0) * F k (fun t => N t k) := by
    refine ba_S_top (f := fun c => (if U c = true then x c else 0) * F k (fun t => N t c)) hk ?_
    intro c hc hn
    by_cases uc : U c = true
    · simp only [uc, if_true]
      have xc := hx c hc uc
      rcases Nat.lt_or_ge c k with z | z
      · rw [h4 k hk uk c z uc, if_neg (fun e => hn e.symm)]; simp
      · have := h5 k hk uk c z hc uc hn
        exact Int.mul_nonpos_of_nonneg_of_nonpos (by omega) this
    · simp [uc]
  rw [if_pos uk] at b
  have xk := hx k hk uk
  have c : 0 < x k * F k (fun t => N t k) := by omega
  exact Int.pos_of_mul_pos_right c xk
theorem ba_cancel {D a b : Int} (hD : 0 < D) (h : D * a = D * b) : a = b := Int.eq_of_mul_eq_mul_left (by omega) h
theorem ba_cancelLe {D a b : Int} (hD : 0 < D) (h : D * a ≤ D * b) : a ≤ b := Int.le_of_mul_le_mul_left h hD
theorem ba_cancelPos {D a : Int} (hD : 0 < D) (h : 0 < D * a) : 0 < a := Int.pos_of_mul_pos_right h hD
theorem ba_Tstep {n : Nat} {U : Nat → Bool} {N : Nat → Nat → Int} {g : Nat → Int} {k : Nat} {F F' : Nat → (Nat → Int) → Int} {D D' : Int}
    (h : ba_T n U N g k F D) (hk : k < n) (uk : U k = true) (hp : 0 < D') (hD : F k (fun t => N t k) = D')
    (hs : ∀ s, s < n → U s = true → s ≠ k → ∀ v, D * F' s v = D' * F s v - F s (fun t => N t k) * F k v)
    (hq : ∀ v, F' k v = F k v) : ba_T n U N g (k + 1) F' D' := by
  obtain ⟨h1, h2, h3, h4, h5, h6, h7, h8, h9⟩ := h
  have neg : ∀ s, s < n → U s = true → s ≠ k → F s (fun t => N t k) ≤ 0 := fun s hn us e => h5 s hn us k (Nat.le_refl k) hk uk (fun z => e z.symm)
  refine ⟨hp, ?_, ?_, ?_, ?_, ?_, ?_, ?_, ?_⟩
  · intro s hn us v u b
    by_cases e : s = k
    · subst e; rw [hq, hq, hq]; exact h2 s hn us v u b
    · apply ba_cancel h1
      rw [hs s hn us e, h2 s hn us, h2 k hk uk, Int.mul_add]
      have a := hs s hn us e v
      have c := hs s hn us e u
      grind
  · intro s hn us v u he
    by_cases e : s = k
    · subst e; rw [hq, hq]; exact h3 s hn us v u he
    · apply ba_cancel h1
      rw [hs s hn us e, hs s hn us e, h3 s hn us v u he, h3 k hk uk v u he]
  · intro s hn us c hc uc
    by_cases ck : c = k
    · subst ck
      by_cases e : s = c
      · subst e; rw [hq, hD, if_pos rfl]
      · rw [if_neg e]
        apply ba_cancel h1
        rw [hs s hn us e, hD]
        grind
    · by_cases e : s = k
      · subst e; rw [hq, h4 s hn us c (by omega) uc, if_neg (fun z => ck z.symm), if_neg (fun z => ck z.symm)]
      · apply ba_cancel h1
        have hkc : ¬ k = c := fun z => ck z.symm
        rw [hs s hn us e, h4 s hn us c (by omega) uc, h4 k hk uk c (by omega) uc, if_neg hkc]
        by_cases z : s = c
        · rw [if_pos z, if_pos z]; grind
        · rw [if_neg z, if_neg z]; grind
  · intro s hn us c hc cn uc cs
    by_cases e : s = k
    · subst e; rw [hq]; exact h5 s hn us c (by omega) cn uc cs
    · apply ba_cancelLe h1
      rw [hs s hn us e]
      have a := h5 s hn us c (by omega) cn uc cs
      have b := h5 k hk uk c (by omega) cn uc (by omega)
      have d := neg s hn us e
      have p1 : D' * F s (fun t => N t c) ≤ 0 := Int.mul_nonpos_of_nonneg_of_nonpos (by omega) a
      have p2 : 0 ≤ F s (fun t => N t k) * F k (fun t => N t c) := Int.mul_nonneg_of_nonpos_of_nonpos d b
      omega
  · intro s hks hn us
    have e : s ≠ k := by omega
    apply ba_cancelPos h1
    rw [hs s hn us e]
    have p1 : 0 < D' * F s g := Int.mul_pos hp (h6 s (by omega) hn us)
    have p2 : F s (fun t => N t k) * F k g ≤ 0 := Int.mul_nonpos_of_nonpos_of_nonneg (neg s hn us e) (by have := h6 k (Nat.le_refl k) hk uk; omega)
    omega
  · intro s hks hn us
    have e : s ≠ k := by omega
    apply ba_cancelLe h1
    rw [hs s hn us e]
    have p1 : D' * F s (fun t => N t s) ≤ D' * (N s s * D) := Int.mul_le_mul_of_nonneg_left (h7 s (by omega) hn us) (by omega)
    have p2 : 0 ≤ F s (fun t => N t k) * F k (fun t => N t s) := Int.mul_nonneg_of_nonpos_of_nonpos (neg s hn us e) (h5 k hk uk s (by omega) hn us e)
    have p3 : D' * (N s s * D) = D * (N s s * D') := by grind
    omega
  · intro s hn us v hv
    by_cases e : s = k
    · subst e; rw [hq]; exact h8 s hn us v hv
    · have p0 : 0 ≤ D * F' s v := by
        rw [hs s hn us e]
        have p1 : 0 ≤ D' * F s v := Int.mul_nonneg (by omega) (h8 s hn us v hv)
        have p2 : F s (fun t => N t k) * F k v ≤ 0 := Int.mul_nonpos_of_nonpos_of_nonneg (neg s hn us e) (h8 k hk uk v hv)
        omega
      exact Int.le_of_mul_le_mul_left (by simpa using p0) h1
  · intro s hn us v
    apply ba_cancel h1
    have a := h9 s hn us v
    have b := h9 s hn us (fun t => N t k)
    have e1 : D * ba_S (fun c => (if c < k + 1 ∧ U c = true then N s c else 0) * F' c v) n = D' * ba_S (fun c => (if c < k ∧ U c = true then N s c else 0) * F c v) n + (-(F k v)) * ba_S (fun c => (if c < k ∧ U c = true then N s c else 0) * F c (fun t => N t k)) n + D * N s k * F k v := by
      rw [← ba_S_mul, ← ba_S_mul, ← ba_S_mul, ← ba_S_add]
      have e2 : ba_S (fun c => if c = k then D * N s k * F k v else 0) n = D * N s k * F k v := by
        rw [ba_S_one hk (fun c _ hc => by simp [hc])]; simp
      rw [← e2, ← ba_S_add]
      apply ba_S_congr
      intro c hc
      by_cases uc : U c = true
      · by_cases ck : c = k
        · subst ck
          simp only [Nat.lt_irrefl, Nat.lt_succ_self, uc, and_self, if_true, false_and, if_false, hq]
          grind
        · by_cases lt : c < k
          · have l2 : c < k + 1 := by omega
            have z := hs c hc uc ck v
            simp only [lt, l2, uc, and_self, if_true, ck, if_false]
            grind
          · have l2 : ¬ c < k + 1 := by omega
            simp [lt, l2, ck]
      · have ck : c ≠ k := fun e => uc (e ▸ uk)
        simp [uc, ck]
    rw [Int.mul_add, e1]
    by_cases z : s < k
    · rw [if_pos z] at a b
      rw [if_pos (by omega : s < k + 1)]
      generalize ba_S (fun c => (if c < k ∧ U c = true then N s c else 0) * F c v) n = A at *
      generalize ba_S (fun c => (if c < k ∧ U c = true then N s c else 0) * F c (fun t => N t k)) n = B at *
      grind
    · rw [if_neg z] at a b
      generalize ba_S (fun c => (if c < k ∧ U c = true then N s c else 0) * F c v) n = A at *
      generalize ba_S (fun c => (if c < k ∧ U c = true then N s c else 0) * F c (fun t => N t k)) n = B at *
      by_cases e : s = k
      · subst e
        rw [if_pos (by omega : s < s + 1)]
        rw [hD] at b
        grind
      · rw [if_neg (by omega : ¬ s < k + 1)]
        have c := hs s hn us e v
        grind
/-! the unknown states below k, in their order -/
def ba_ops (U : Nat → Bool) : Nat → List Nat
  | 0 => []
  | k + 1 => if U k = true then ba_ops U k ++ [k] else ba_ops U k
theorem ba_ops_n {U : Nat → Bool} {k : Nat} (u : ¬ U k = true) : ba_ops U (k + 1) = ba_ops U k := if_neg u
theorem ba_ops_mem {U : Nat → Bool} {c : Nat} : ∀ {k}, c ∈ ba_ops U k ↔ c < k ∧ U c = true := by
  intro k
  induction k with
  | zero => simp [ba_ops]
  | succ k ih =>
    by_cases e : U k = true
    · simp only [ba_ops, e, if_true, List.mem_append, ih, List.mem_singleton]
      constructor
      · rintro (⟨a, b⟩ | rfl)
        · exact ⟨by omega, b⟩
        · exact ⟨by omega, e⟩
      · rintro ⟨a, b⟩
        by_cases z : c = k
        · exact .inr z
        · exact .inl ⟨by omega, b⟩
    · rw [ba_ops_n e, ih]
      constructor
      · rintro ⟨a, b⟩; exact ⟨by omega, b⟩
      · rintro ⟨a, b⟩
        have : c ≠ k := fun z => e (z ▸ b)
        exact ⟨by omega, b⟩
theorem ba_ops_nodup (U : Nat → Bool) : ∀ k, (ba_ops U k).Nodup := by
  intro k
  induction k with
  | zero => simp [ba_ops]
  | succ k ih =>
    by_cases e : U k = true
    · simp only [ba_ops, e, if_true]
      rw [List.nodup_append]
      refine ⟨ih, by simp, ?_⟩
      intro a ha b hb
      have := (ba_ops_mem.mp ha).1
      simp at hb
      omega
    · rw [ba_ops_n e]; exact ih
theorem ba_ops_len (U : Nat → Bool) : ∀ k, (ba_ops U k).length ≤ k := by
  intro k
  induction k with
  | zero => simp [ba_ops]
  | succ k ih =>
    by_cases e : U k = true
    · simp only [ba_ops, e, if_true, List.length_append, List.length_singleton]; omega
    · rw [ba_ops_n e]; omega
theorem ba_ops_lenz {U : Nat → Bool} {z : Nat} (hz : U z = false) : ∀ k, z < k → (ba_ops U k).length + 1 ≤ k := by
  intro k
  induction k with
  | zero => intro h; omega
  | succ k ih =>
    intro h
    by_cases e : U k = true
    · have : z ≠ k := fun q => by rw [q, e] at hz; cases hz
      have := ih (by omega)
      simp only [ba_ops, e, if_true, List.length_append, List.length_singleton]; omega
    · have := ba_ops_len U k
      rw [ba_ops_n e]; omega
theorem ba_tower {n : Nat} {U : Nat → Bool} {N : Nat → Nat → Int} {x : Nat → Int} (hn : n ≤ 5) {z : Nat} (hz : z < n) (uz : U z = false)
    (hM : ∀ s, s < n → U s = true → ∀ c, c < n → U c = true → c ≠ s → N s c ≤ 0)
    (hx : ∀ c, c < n → U c = true → 0 < x c)
    (hg : ∀ s, s < n → U s = true → 0 < ba_S (fun c => (if U c = true then x c else 0) * N s c) n) :
    ∀ k, k ≤ n → ba_T n U N (fun t => ba_S (fun c => (if U c = true then x c else 0) * N t c) n) k (ba_F N (ba_ops U k)) (ba_D N (ba_ops U k)) := by
  intro k
  induction k with
  | zero => intro _; exact ba_T0 hM hg
  | succ k ih =>
    intro hk
    have T := ih (by omega)
    by_cases uk : U k = true
    · have pv := ba_piv T hx (by omega) uk
      have ni : k ∉ ba_ops U k := fun q => by have := (ba_ops_mem.mp q).1; omega
      have zk : z ≠ k := fun q => by rw [q, uk] at uz; cases uz
      have l1 := ba_ops_len U k
      have l3 : (ba_ops U k).length ≤ 3 := by
        rcases Nat.lt_or_ge k 4 with q | q
        · omega
        · have := ba_ops_lenz uz k (by omega); omega
      have e : ba_ops U (k + 1) = ba_ops U k ++ [k] := by simp only [ba_ops, uk, if_true]
      rw [e]
      refine ba_Tstep T (by omega) uk (by rw [ba_stepD N _ _ l3 ni]; exact pv) (ba_stepD N _ _ l3 ni).symm ?_ (fun v => ba_stepP N _ _ v l3 ni)
      intro s hs us hsk v
      rw [ba_stepD N _ _ l3 ni]
      refine ba_step N _ k s v l3 (ba_ops_nodup U k) ni hsk ?_
      intro l4
      rcases Nat.lt_or_ge s k with q | q
      · exact ba_ops_mem.mpr ⟨q, us⟩
      · exfalso
        have zs : z ≠ s := fun q => by rw [q, us] at uz; cases uz
        rcases Nat.lt_or_ge z k with w | w
        · have := ba_ops_lenz uz k w; omega
        · omega
    · have uk' : U k = false := by simpa using uk
      have e : ba_ops U (k + 1) = ba_ops U k := ba_ops_n uk
      rw [e]
      exact ba_Tskip T uk'
end
section
/-! how large a minor of numbers up to 45 can be -/
theorem ba_nm {a b : Int} {x y : Nat} (ha : a.natAbs ≤ x) (hb : b.natAbs ≤ y) : (a * b).natAbs ≤ x * y := by
  rw [Int.natAbs_mul]; exact Nat.mul_le_mul ha hb
theorem ba_b2 {a b c d : Int} (ha : a.natAbs ≤ 45) (hb : b.natAbs ≤ 45) (hc : c.natAbs ≤ 45) (hd : d.natAbs ≤ 45) : (ba_d2 a b c d).natAbs ≤ 4050 := by
  unfold ba_d2
  have h1 := ba_nm ha hd
  have h2 := ba_nm hb hc
  have := Int.natAbs_sub_le (a * d) (b * c)
  omega
theorem ba_b3 {a b c d e f g h i : Int} (ha : a.natAbs ≤ 45) (hb : b.natAbs ≤ 45) (hc : c.natAbs ≤ 45) (hd : d.natAbs ≤ 45) (he : e.natAbs ≤ 45) (hf : f.natAbs ≤ 45) (hg : g.natAbs ≤ 45) (hh : h.natAbs ≤ 45) (hi : i.natAbs ≤ 45) : (ba_d3 a b c d e f g h i).natAbs ≤ 546750 := by
  unfold ba_d3
  have m0 := ba_nm ha (ba_b2 he hf hh hi)
  have m1 := ba_nm hb (ba_b2 hd hf hg hi)
  have m2 := ba_nm hc (ba_b2 hd he hg hh)
  have s1 := Int.natAbs_sub_le (a * ba_d2 e f h i) (b * ba_d2 d f g i)
  have s2 := Int.natAbs_add_le (a * ba_d2 e f h i - b * ba_d2 d f g i) (c * ba_d2 d e g h)
  omega
theorem ba_b4 {a b c d e f g h i j k l m n o p : Int} (ha : a.natAbs ≤ 45) (hb : b.natAbs ≤ 45) (hc : c.natAbs ≤ 45) (hd : d.natAbs ≤ 45) (he : e.natAbs ≤ 45) (hf : f.natAbs ≤ 45) (hg : g.natAbs ≤ 45) (hh : h.natAbs ≤ 45) (hi : i.natAbs ≤ 45) (hj : j.natAbs ≤ 45) (hk : k.natAbs ≤ 45) (hl : l.natAbs ≤ 45) (hm : m.natAbs ≤ 45) (hn : n.natAbs ≤ 45) (ho : o.natAbs ≤ 45) (hp : p.natAbs ≤ 45) : (ba_d4 a b c d e f g h i j k l m n o p).natAbs ≤ 98415000 := by
  unfold ba_d4
  have m0 := ba_nm ha (ba_b3 hf hg hh hj hk hl hn ho hp)
  have m1 := ba_nm hb (ba_b3 he hg hh hi hk hl hm ho hp)
  have m2 := ba_nm hc (ba_b3 he hf hh hi hj hl hm hn hp)
  have m3 := ba_nm hd (ba_b3 he hf hg hi hj hk hm hn ho)
  have s1 := Int.natAbs_sub_le (a * ba_d3 f g h j k l n o p) (b * ba_d3 e g h i k l m o p)
  have s2 := Int.natAbs_add_le (a * ba_d3 f g h j k l n o p - b * ba_d3 e g h i k l m o p) (c * ba_d3 e f h i j l m n p)
  have s3 := Int.natAbs_sub_le (a * ba_d3 f g h j k l n o p - b * ba_d3 e g h i k l m o p + c * ba_d3 e f h i j l m n p) (d * ba_d3 e f g i j k m n o)
  omega
def ba_bd : Nat → Nat
  | 0 => 1
  | 1 => 45
  | 2 => 4050
  | 3 => 546750
  | _ => 98415000
theorem ba_FbIn (N : Nat → Nat → Int) (v : Nat → Int) (P : List Nat) (s : Nat) (hs : s ∈ P) (hN : ∀ a, a ∈ P → ∀ b, b ∈ P → (N a b).natAbs ≤ 45) (hv : ∀ a, a ∈ P → (v a).natAbs ≤ 45) : (ba_F N P s v).natAbs ≤ ba_bd P.length := by
  match P, hs, hN, hv with
  | [], hs, _, _ => simp at hs
  | [p], hs, hN, hv =>
    simp only [List.mem_cons, List.not_mem_nil, or_false] at hs
    show (ba_F N [p] s v).natAbs ≤ 45
    simp only [ba_F]
    by_cases ep : s = p
    · rw [if_pos ep]; exact (hv p (by simp))
    rw [if_neg ep]
    exact absurd hs (by simp [ep])
  | [p, q], hs, hN, hv =>
    simp only [List.mem_cons, List.not_mem_nil, or_false] at hs
    show (ba_F N [p, q] s v).natAbs ≤ 4050
    simp only [ba_F]
    by_cases ep : s = p
    · rw [if_pos ep]; exact ba_b2 (hv p (by simp)) (hN p (by simp) q (by simp)) (hv q (by simp)) (hN q (by simp) q (by simp))
    rw [if_neg ep]
    by_cases eq : s = q
    · rw [if_pos eq]; exact ba_b2 (hN p (by simp) p (by simp)) (hv p (by simp)) (hN q (by simp) p (by simp)) (hv q (by simp))
    rw [if_neg eq]
    exact absurd hs (by simp [ep, eq])
  | [p, q, r], hs, hN, hv =>
    simp only [List.mem_cons, List.not_mem_nil, or_false] at hs
    show (ba_F N [p, q, r] s v).natAbs ≤ 546750
    simp only [ba_F]
    by_cases ep : s = p
    · rw [if_pos ep]; exact ba_b3 (hv p (by simp)) (hN p (by simp) q (by simp)) (hN p (by simp) r (by simp)) (hv q (by simp)) (hN q (by simp) q (by simp)) (hN q (by simp) r (by simp)) (hv r (by simp)) (hN r (by simp) q (by simp)) (hN r (by simp) r (by simp))
    rw [if_neg ep]
    by_cases eq : s = q
    · rw [if_pos eq]; exact ba_b3 (hN p (by simp) p (by simp)) (hv p (by simp)) (hN p (by simp) r (by simp)) (hN q (by simp) p (by simp)) (hv q (by simp)) (hN q (by simp) r (by simp)) (hN r (by simp) p (by simp)) (hv r (by simp)) (hN r (by simp) r (by simp))
    rw [if_neg eq]
    by_cases er : s = r
    · rw [if_pos er]; exact ba_b3 (hN p (by simp) p (by simp)) (hN p (by simp) q (by simp)) (hv p (by simp)) (hN q (by simp) p (by simp)) (hN q (by simp) q (by simp)) (hv q (by simp)) (hN r (by simp) p (by simp)) (hN r (by simp) q (by simp)) (hv r (by simp))
    rw [if_neg er]
    exact absurd hs (by simp [ep, eq, er])
  | [p, q, r, t], hs, hN, hv =>
    simp only [List.mem_cons, List.not_mem_nil, or_false] at hs
    show (ba_F N [p, q, r, t] s v).natAbs ≤ 98415000
    simp only [ba_F]
    by_cases ep : s = p
    · rw [if_pos ep]; exact ba_b4 (hv p (by simp)) (hN p (by simp) q (by simp)) (hN p (by simp) r (by simp)) (hN p (by simp) t (by simp)) (hv q (by simp)) (hN q (by simp) q (by simp)) (hN q (by simp) r (by simp)) (hN q (by simp) t (by simp)) (hv r (by simp)) (hN r (by simp) q (by simp)) (hN r (by simp) r (by simp)) (hN r (by simp) t (by simp)) (hv t (by simp)) (hN t (by simp) q (by simp)) (hN t (by simp) r (by simp)) (hN t (by simp) t (by simp))
    rw [if_neg ep]
    by_cases eq : s = q
    · rw [if_pos eq]; exact ba_b4 (hN p (by simp) p (by simp)) (hv p (by simp)) (hN p (by simp) r (by simp)) (hN p (by simp) t (by simp)) (hN q (by simp) p (by simp)) (hv q (by simp)) (hN q (by simp) r (by simp)) (hN q (by simp) t (by simp)) (hN r (by simp) p (by simp)) (hv r (by simp)) (hN r (by simp) r (by simp)) (hN r (by simp) t (by simp)) (hN t (by simp) p (by simp)) (hv t (by simp)) (hN t (by simp) r (by simp)) (hN t (by simp) t (by simp))
    rw [if_neg eq]
    by_cases er : s = r
    · rw [if_pos er]; exact ba_b4 (hN p (by simp) p (by simp)) (hN p (by simp) q (by simp)) (hv p (by simp)) (hN p (by simp) t (by simp)) (hN q (by simp) p (by simp)) (hN q (by simp) q (by simp)) (hv q (by simp)) (hN q (by simp) t (by simp)) (hN r (by simp) p (by simp)) (hN r (by simp) q (by simp)) (hv r (by simp)) (hN r (by simp) t (by simp)) (hN t (by simp) p (by simp)) (hN t (by simp) q (by simp)) (hv t (by simp)) (hN t (by simp) t (by simp))
    rw [if_neg er]
    by_cases et : s = t
    · rw [if_pos et]; exact ba_b4 (hN p (by simp) p (by simp)) (hN p (by simp) q (by simp)) (hN p (by simp) r (by simp)) (hv p (by simp)) (hN q (by simp) p (by simp)) (hN q (by simp) q (by simp)) (hN q (by simp) r (by simp)) (hv q (by simp)) (hN r (by simp) p (by simp)) (hN r (by simp) q (by simp)) (hN r (by simp) r (by simp)) (hv r (by simp)) (hN t (by simp) p (by simp)) (hN t (by simp) q (by simp)) (hN t (by simp) r (by simp)) (hv t (by simp))
    rw [if_neg et]
    exact absurd hs (by simp [ep, eq, er, et])
  | _ :: _ :: _ :: _ :: _ :: _, _, _, _ => exact Nat.zero_le _
theorem ba_FbOut (N : Nat → Nat → Int) (v : Nat → Int) (P : List Nat) (s : Nat) (hs : s ∉ P) (hN : ∀ a, a ∈ s :: P → ∀ b, b ∈ s :: P → (N a b).natAbs ≤ 45) (hv : ∀ a, a ∈ s :: P → (v a).natAbs ≤ 45) : (ba_F N P s v).natAbs ≤ ba_bd (P.length + 1) := by
  match P, hs, hN, hv with
  | [], _, _, hv => exact hv s (by simp)
  | [p], hs, hN, hv =>
    simp only [List.mem_cons, List.not_mem_nil, or_false, not_or] at hs
    show (ba_F N [p] s v).natAbs ≤ 4050
    simp only [ba_F, hs, if_false]
    exact ba_b2 (hN p (by simp) p (by simp)) (hv p (by simp)) (hN s (by simp) p (by simp)) (hv s (by simp))
  | [p, q], hs, hN, hv =>
    simp only [List.mem_cons, List.not_mem_nil, or_false, not_or] at hs
    show (ba_F N [p, q] s v).natAbs ≤ 546750
    simp only [ba_F, hs, if_false]
    exact ba_b3 (hN p (by simp) p (by simp)) (hN p (by simp) q (by simp)) (hv p (by simp)) (hN q (by simp) p (by simp)) (hN q (by simp) q (by simp)) (hv q (by simp)) (hN s (by simp) p (by simp)) (hN s (by simp) q (by simp)) (hv s (by simp))
  | [p, q, r], hs, hN, hv =>
    simp only [List.mem_cons, List.not_mem_nil, or_false, not_or] at hs
    show (ba_F N [p, q, r] s v).natAbs ≤ 98415000
    simp only [ba_F, hs, if_false]
    exact ba_b4 (hN p (by simp) p (by simp)) (hN p (by simp) q (by simp)) (hN p (by simp) r (by simp)) (hv p (by simp)) (hN q (by simp) p (by simp)) (hN q (by simp) q (by simp)) (hN q (by simp) r (by simp)) (hv q (by simp)) (hN r (by simp) p (by simp)) (hN r (by simp) q (by simp)) (hN r (by simp) r (by simp)) (hv r (by simp)) (hN s (by simp) p (by simp)) (hN s (by simp) q (by simp)) (hN s (by simp) r (by simp)) (hv s (by simp))
  | [p, q, r, t], hs, _, _ =>
    simp only [List.mem_cons, List.not_mem_nil, or_false, not_or] at hs
    simp only [ba_F, hs, if_false]
    exact Nat.zero_le _
  | _ :: _ :: _ :: _ :: _ :: _, _, _, _ => exact Nat.zero_le _
theorem ba_bd_mono : ∀ k, k ≤ 4 → ba_bd k ≤ 98415000 := by
  intro k hk
  match k, hk with
  | 0, _ => decide
  | 1, _ => decide
  | 2, _ => decide
  | 3, _ => decide
  | 4, _ => decide
theorem ba_bd_all (k : Nat) : ba_bd k ≤ 98415000 := by
  match k with
  | 0 => decide
  | 1 => decide
  | 2 => decide
  | 3 => decide
  | _ + 4 => exact Nat.le_refl _
theorem ba_Fb {n : Nat} {U : Nat → Bool} {N : Nat → Nat → Int} {v : Nat → Int} {k s : Nat} (hk : k ≤ n) (hs : s < n) (us : U s = true)
    (hN : ∀ a, a < n → U a = true → ∀ b, b < n → U b = true → (N a b).natAbs ≤ 45) (hv : ∀ a, a < n → U a = true → (v a).natAbs ≤ 45) : (ba_F N (ba_ops U k) s v).natAbs ≤ 98415000 := by
  have m : ∀ a, a ∈ ba_ops U k → a < n ∧ U a = true := fun a ha => ⟨by have := (ba_ops_mem.mp ha).1; omega, (ba_ops_mem.mp ha).2⟩
  by_cases e : s ∈ ba_ops U k
  · exact Nat.le_trans (ba_FbIn N v _ s e (fun a ha b hb => hN a (m a ha).1 (m a ha).2 b (m b hb).1 (m b hb).2) (fun a ha => hv a (m a ha).1 (m a ha).2)) (ba_bd_all _)
  · have m2 : ∀ a, a ∈ s :: ba_ops U k → a < n ∧ U a = true := fun a ha => by
      rcases List.mem_cons.mp ha with rfl | h
      · exact ⟨hs, us⟩
      · exact m a h
    exact Nat.le_trans (ba_FbOut N v _ s e (fun a ha b hb => hN a (m2 a ha).1 (m2 a ha).2 b (m2 b hb).1 (m2 b hb).2) (fun a ha => hv a (m2 a ha).1 (m2 a ha).2)) (ba_bd_all _)
theorem ba_Dle {n : Nat} {U : Nat → Bool} {N : Nat → Nat → Int} {g : Nat → Int} (hn : n ≤ 5) {z : Nat} (hz : z < n) (uz : U z = false)
    (hT : ∀ k, k ≤ n → ba_T n U N g k (ba_F N (ba_ops U k)) (ba_D N (ba_ops U k)))
    (hN : ∀ a, a < n → U a = true → N a a ≤ 45) : ∀ k, k ≤ n → ba_D N (ba_ops U k) ≤ 45 ^ (ba_ops U k).length := by
  intro k
  induction k with
  | zero => intro _; exact Int.le_refl _
  | succ k ih =>
    intro hk
    have a := ih (by omega)
    by_cases uk : U k = true
    · have ni : k ∉ ba_ops U k := fun q => by have := (ba_ops_mem.mp q).1; omega
      have zk : z ≠ k := fun q => by rw [q, uk] at uz; cases uz
      have l1 := ba_ops_len U k
      have l3 : (ba_ops U k).length ≤ 3 := by
        rcases Nat.lt_or_ge k 4 with q | q
        · omega
        · have := ba_ops_lenz uz k (by omega); omega
      have e : ba_ops U (k + 1) = ba_ops U k ++ [k] := by simp only [ba_ops, uk, if_true]
      obtain ⟨h1, h2, h3, h4, h5, h6, h7, h8, h9⟩ := hT k (by omega)
      have b := h7 k (Nat.le_refl k) (by omega) uk
      have c := hN k (by omega) uk
      rw [e, ba_stepD N _ _ l3 ni, List.length_append, List.length_singleton, Int.pow_succ]
      have d : N k k * ba_D N (ba_ops U k) ≤ 45 * ba_D N (ba_ops U k) := Int.mul_le_mul_of_nonneg_right c (by omega)
      omega
    · have uk' : U k = false := by simpa using uk
      have e : ba_ops U (k + 1) = ba_ops U k := ba_ops_n uk
      rw [e]; exact a
end
section
/-! counting below n, and chains of sets that stop growing -/
noncomputable def gr_cnt (p : Nat → Prop) : Nat → Nat
  | 0 => 0
  | n + 1 => gr_cnt p n + @ite Nat (p n) (Classical.propDecidable (p n)) 1 0
theorem gr_cnt_le (p : Nat → Prop) : ∀ n, gr_cnt p n ≤ n := by
  intro n
  induction n with
  | zero => exact Nat.le_refl _
  | succ n ih =>
    unfold gr_cnt
    by_cases h : p n
    · rw [if_pos h]; omega
    · rw [if_neg h]; omega
theorem gr_cnt_mono {p q : Nat → Prop} : ∀ {n : Nat}, (∀ i, i < n → p i → q i) → gr_cnt p n ≤ gr_cnt q n := by
  intro n
  induction n with
  | zero => intro _; exact Nat.le_refl _
  | succ n ih =>
    intro h
    have a := ih (fun i hi => h i (by omega))
    have b := h n (by omega)
    unfold gr_cnt
    by_cases hp : p n
    · rw [if_pos hp, if_pos (b hp)]; omega
    · rw [if_neg hp]; omega
theorem gr_cnt_lt {p q : Nat → Prop} : ∀ {n : Nat}, (∀ i, i < n → p i → q i) → ∀ i, i < n → q i → ¬ p i → gr_cnt p n + 1 ≤ gr_cnt q n := by
  intro n
  induction n with
  | zero => intro _ i hi; omega
  | succ n ih =>
    intro h i hi hq hp
    unfold gr_cnt
    by_cases e : i = n
    · subst e
      have a := gr_cnt_mono (fun j (hj : j < i) => h j (by omega))
      rw [if_pos hq, if_neg hp]; omega
    · have a := ih (fun j hj => h j (by omega)) i (by omega) hq hp
      by_cases hpn : p n
      · rw [if_pos hpn, if_pos (h n (by omega) hpn)]; omega
      · rw [if_neg hpn]; omega
theorem gr_stab {n : Nat} {L : Nat → Nat → Prop} (mono : ∀ k i, L k i → L (k + 1) i)
    (det : ∀ k, (∀ i, i < n → L (k + 1) i → L k i) → ∀ i, i < n → L (k + 2) i → L (k + 1) i)
    (g : ∃ i, i < n ∧ L 0 i) : ∀ k i, i < n → L k i → L (n - 1) i := by
  have P : ∀ k, (∃ j, j < k ∧ ∀ i, i < n → L (j + 1) i → L j i) ∨ k + 1 ≤ gr_cnt (L k) n := by
    intro k
    induction k with
    | zero =>
      obtain ⟨i, hi, h0⟩ := g
      have := gr_cnt_lt (p := fun _ => False) (q := L 0) (n := n) (fun _ _ h => h.elim) i hi h0 (fun h => h)
      exact .inr (by omega)
    | succ k ih =>
      rcases ih with ⟨j, hj, h⟩ | h
      · exact .inl ⟨j, by omega, h⟩
      · by_cases st : ∀ i, i < n → L (k + 1) i → L k i
        · exact .inl ⟨k, by omega, st⟩
        · refine .inr ?_
          have : ∃ i, i < n ∧ L (k + 1) i ∧ ¬ L k i := by
            apply Classical.byContradiction
            intro hc
            apply st
            intro i hi h1
            apply Classical.byContradiction
            intro h2
            exact hc ⟨i, hi, h1, h2⟩
          obtain ⟨i, hi, h1, h2⟩ := this
          have := gr_cnt_lt (p := L k) (q := L (k + 1)) (n := n) (fun i _ hx => mono k i hx) i hi h1 h2
          omega
  have up : ∀ d k i, L k i → L (k + d) i := by
    intro d
    induction d with
    | zero => intro k i h; exact h
    | succ d ih => intro k i h; exact mono _ _ (ih k i h)
  rcases P n with ⟨j, hj, st⟩ | h
  · have st2 : ∀ d i, i < n → L (j + d + 1) i → L (j + d) i := by
      intro d
      induction d with
      | zero => intro i hi h; exact st i hi h
      | succ d ih => intro i hi h; exact det (j + d) ih i hi h
    have dn : ∀ d i, i < n → L (j + d) i → L j i := by
      intro d
      induction d with
      | zero => intro i _ h; exact h
      | succ d ih => intro i hi h; exact ih i hi (st2 d i hi h)
    intro k i hi h
    rcases Nat.le_total k j with q | q
    · have := up (n - 1 - k) k i h
      rwa [show k + (n - 1 - k) = n - 1 by omega] at this
    · have a := dn (k - j) i hi (by rwa [show j + (k - j) = k by omega])
      have := up (n - 1 - j) j i a
      rwa [show j + (n - 1 - j) = n - 1 by omega] at this
  · have := gr_cnt_le (L n) n; omega
/-! going backwards to a goal G through states that are not barred, and forwards from i, not on from T -/
def gr_L (n : Nat) (E : Nat → Nat → Prop) (G B : Nat → Prop) : Nat → Nat → Prop
  | 0, i => G i
  | k + 1, i => gr_L n E G B k i ∨ (¬ B i ∧ ∃ j, j < n ∧ E i j ∧ gr_L n E G B k j)
def gr_R (n : Nat) (E : Nat → Nat → Prop) (T : Nat → Prop) (i : Nat) : Nat → Nat → Prop
  | 0, j => j = i
  | k + 1, j => gr_R n E T i k j ∨ (j < n ∧ ∃ x, x < n ∧ gr_R n E T i k x ∧ ¬ T x ∧ E x j)
theorem gr_L_up {n : Nat} {E : Nat → Nat → Prop} {G B : Nat → Prop} {i : Nat} : ∀ {k m : Nat}, k ≤ m → gr_L n E G B k i → gr_L n E G B m i := by
  intro k m h
  induction m with
  | zero => intro a; rwa [show k = 0 by omega] at a
  | succ m ih =>
    intro a
    rcases Nat.lt_or_ge m k with q | q
    · rwa [show k = m + 1 by omega] at a
    · exact .inl (ih q a)
theorem gr_R_up {n : Nat} {E : Nat → Nat → Prop} {T : Nat → Prop} {i j : Nat} : ∀ {k m : Nat}, k ≤ m → gr_R n E T i k j → gr_R n E T i m j := by
  intro k m h
  induction m with
  | zero => intro a; rwa [show k = 0 by omega] at a
  | succ m ih =>
    intro a
    rcases Nat.lt_or_ge m k with q | q
    · rwa [show k = m + 1 by omega] at a
    · exact .inl (ih q a)
theorem gr_L_stab {n : Nat} {E : Nat → Nat → Prop} {G B : Nat → Prop} (k i : Nat) (hi : i < n) (h : gr_L n E G B k i) : gr_L n E G B (n - 1) i := by
  by_cases g : ∃ j, j < n ∧ G j
  · refine gr_stab (L := gr_L n E G B) (fun k i h => .inl h) ?_ g k i hi h
    intro k st i hi h
    rcases h with h | ⟨hb, j, hj, e, h⟩
    · exact h
    · exact .inr ⟨hb, j, hj, e, st j hj h⟩
  · have no : ∀ k i, i < n → ¬ gr_L n E G B k i := by
      intro k
      induction k with
      | zero => intro i hi h; exact g ⟨i, hi, h⟩
      | succ k ih =>
        intro i hi h
        rcases h with h | ⟨_, j, hj, _, h⟩
        · exact ih i hi h
        · exact ih j hj h
    exact absurd h (no k i hi)
theorem gr_R_lt {n : Nat} {E : Nat → Nat → Prop} {T : Nat → Prop} {i : Nat} (hi : i < n) : ∀ k j, gr_R n E T i k j → j < n := by
  intro k
  induction k with
  | zero => intro j h; rw [show j = i from h]; exact hi
  | succ k ih =>
    intro j h
    rcases h with h | h
    · exact ih j h
    · exact h.1
theorem gr_R_stab {n : Nat} {E : Nat → Nat → Prop} {T : Nat → Prop} {i : Nat} (hi : i < n) (k j : Nat) (h : gr_R n E T i k j) : gr_R n E T i (n - 1) j := by
  refine gr_stab (n := n) (L := gr_R n E T i) (fun k i h => .inl h) ?_ ⟨i, hi, rfl⟩ k j (gr_R_lt hi k j h) h
  intro k st j hj h
  rcases h with h | ⟨hn, x, hx, r, t, e⟩
  · exact h
  · exact .inr ⟨hn, x, hx, st x hx r, t, e⟩
theorem gr_R_pre {n : Nat} {E : Nat → Nat → Prop} {T : Nat → Prop} {i j : Nat} (hi : i < n) (hj : j < n) (ht : ¬ T i) (e : E i j) : ∀ k y, gr_R n E T j k y → gr_R n E T i (k + 1) y := by
  intro k
  induction k with
  | zero => intro y h; rw [show y = j from h]; exact .inr ⟨hj, i, hi, rfl, ht, e⟩
  | succ k ih =>
    intro y h
    rcases h with h | ⟨hy, x, hx, r, t, ex⟩
    · exact .inl (ih y h)
    · exact .inr ⟨hy, x, hx, ih x r, t, ex⟩
theorem gr_LR {n : Nat} {E : Nat → Nat → Prop} {G B T : Nat → Prop} (hT : ∀ x, T x → G x ∨ B x) : ∀ k i, i < n → gr_L n E G B k i → ∃ m y, y < n ∧ G y ∧ gr_R n E T i m y := by
  intro k
  induction k with
  | zero => intro i hi h; exact ⟨0, i, hi, h, rfl⟩
  | succ k ih =>
    intro i hi h
    by_cases g : G i
    · exact ⟨0, i, hi, g, rfl⟩
    · rcases h with h | ⟨hb, j, hj, e, h⟩
      · exact ih i hi h
      · obtain ⟨m, y, hy, gy, r⟩ := ih j hj h
        exact ⟨m + 1, y, hy, gy, gr_R_pre hi hj (fun t => (hT i t).elim g hb) e m y r⟩
theorem gr_RL {n : Nat} {E : Nat → Nat → Prop} {G B T : Nat → Prop} {i : Nat} (hT : ∀ x, B x → T x) : ∀ k y, y < n → gr_R n E T i k y → ∀ m, gr_L n E G B m y → ∃ m', gr_L n E G B m' i := by
  intro k
  induction k with
  | zero => intro y _ h m l; rw [show y = i from h] at l; exact ⟨m, l⟩
  | succ k ih =>
    intro y hy h m l
    rcases h with h | ⟨_, x, hx, r, t, e⟩
    · exact ih y hy h m l
    · exact ih x hx r (m + 1) (.inr ⟨fun b => t (hT x b), y, hy, e, l⟩)
/-- one can go from i to the goal: backwards in n - 1 rounds, or forwards in any number from n - 1 on -/
theorem gr_lead {n : Nat} {E : Nat → Nat → Prop} {G B T : Nat → Prop} (hT : ∀ x, T x → G x ∨ B x) (hB : ∀ x, B x → T x) {i q : Nat} (hi : i < n) (hq : n ≤ q + 1) : gr_L n E G B (n - 1) i ↔ ∃ y, y < n ∧ G y ∧ gr_R n E T i q y := by
  constructor
  · intro h
    obtain ⟨m, y, hy, gy, r⟩ := gr_LR hT _ i hi h
    exact ⟨y, hy, gy, gr_R_up (by omega) (gr_R_stab hi m y r)⟩
  · rintro ⟨y, hy, gy, r⟩
    obtain ⟨m, l⟩ := gr_RL (G := G) hB q y hy r 0 gy
    exact gr_L_stab m i hi l
theorem gr_R5 {n : Nat} {E : Nat → Nat → Prop} {T : Nat → Prop} {i j q : Nat} (hi : i < n) (hq : n ≤ q + 1) : gr_R n E T i q j ↔ gr_R n E T i (n - 1) j :=
  ⟨fun h => gr_R_stab hi q j h, fun h => gr_R_up (by omega) h⟩
theorem gr_to {n : Nat} {E : Nat → Nat → Prop} {i j q : Nat} (hi : i < n) (hj : j < n) (hq : n ≤ q + 1) : gr_L n E (fun y => y = i) (fun _ => False) (n - 1) j ↔ gr_R n E (fun _ => False) j q i := by
  rw [gr_lead (T := fun _ => False) (fun _ z => z.elim) (fun _ z => z) hj hq]
  constructor
  · rintro ⟨y, _, rfl, r⟩; exact r
  · intro r; exact ⟨i, hi, rfl, r⟩
/-! ranks -/
theorem gr_least (P : Nat → Prop) (h : ∃ k, P k) : ∃ k, P k ∧ ∀ j, j < k → ¬ P j := by
  obtain ⟨k, hk⟩ := h
  induction k using Nat.strongRecOn with
  | ind k ih =>
    by_cases z : ∃ j, j < k ∧ P j
    · obtain ⟨j, hj, pj⟩ := z
      exact ih j hj pj
    · exact ⟨k, hk, fun j hj pj => z ⟨j, hj, pj⟩⟩
theorem gr_ranks {n : Nat} {E : Nat → Nat → Prop} {G B : Nat → Prop} : ∃ rk : Nat → Nat, ∀ i, i < n → ¬ G i → gr_L n E G B (n - 1) i → 1 ≤ rk i ∧ rk i ≤ n - 1 ∧ ¬ B i ∧ ∃ j, j < n ∧ E i j ∧ (G j ∨ (gr_L n E G B (n - 1) j ∧ rk j < rk i)) := by
  have ex : ∀ i, ∃ r, (∃ k, gr_L n E G B k i) → gr_L n E G B r i ∧ ∀ j, j < r → ¬ gr_L n E G B j i := by
    intro i
    by_cases h : ∃ k, gr_L n E G B k i
    · obtain ⟨r, h1, h2⟩ := gr_least _ h
      exact ⟨r, fun _ => ⟨h1, h2⟩⟩
    · exact ⟨0, fun z => absurd z h⟩
  refine ⟨fun i => Classical.choose (ex i), ?_⟩
  intro i hi ng l
  have sp := fun i => Classical.choose_spec (ex i)
  generalize hr : (fun i => Classical.choose (ex i)) = rk at *
  have sp : ∀ i, (∃ k, gr_L n E G B k i) → gr_L n E G B (rk i) i ∧ ∀ j, j < rk i → ¬ gr_L n E G B j i := by
    intro i; rw [← hr]; exact sp i
  obtain ⟨h1, h2⟩ := sp i ⟨_, l⟩
  have p1 : 1 ≤ rk i := by
    rcases Nat.eq_zero_or_pos (rk i) with z | z
    · rw [z] at h1; exact absurd h1 ng
    · exact z
  have p2 : rk i ≤ n - 1 := by
    rcases Nat.lt_or_ge (n - 1) (rk i) with z | z
    · exact absurd l (h2 _ z)
    · exact z
  obtain ⟨m, hm⟩ : ∃ m, rk i = m + 1 := ⟨rk i - 1, by omega⟩
  rw [hm] at h1
  rcases h1 with h1 | ⟨hb, j, hj, e, h1⟩
  · exact absurd h1 (h2 m (by omega))
  · refine ⟨p1, p2, hb, j, hj, e, .inr ⟨gr_L_stab m j hj h1, ?_⟩⟩
    obtain ⟨_, q2⟩ := sp j ⟨_, h1⟩
    rcases Nat.lt_or_ge m (rk j) with z | z
    · exact absurd h1 (q2 m z)
    · omega
end
section
/-! the weights: w at 5 i + j; steps, totals, the matrix of the equations -/
def ch_W (w : Nat → Nat) (i : Nat) : Nat := w (5 * i) + w (5 * i + 1) + w (5 * i + 2) + w (5 * i + 3) + w (5 * i + 4)
def ch_sw (w : Nat → Nat) (i j : Nat) : Nat := if ch_W w i = 0 then (if i = j then 1 else 0) else w (5 * i + j)
def ch_tot (w : Nat → Nat) (i : Nat) : Nat := if ch_W w i = 0 then 1 else ch_W w i
def ch_N (w : Nat → Nat) (s c : Nat) : Int := (if s = c then (ch_tot w s : Int) else 0) - (ch_sw w s c : Int)
def ch_ok (n : Nat) (w : Nat → Nat) : Prop := 1 ≤ n ∧ n ≤ 5 ∧ (∀ k, k < 25 → w k ≤ 9) ∧ (∀ i j, i < 5 → j < 5 → (n ≤ i ∨ n ≤ j) → w (5 * i + j) = 0)
theorem ch_W_le {n : Nat} {w : Nat → Nat} (ok : ch_ok n w) {i : Nat} (hi : i < 5) : ch_W w i ≤ 45 := by
  have a := ok.2.2.1
  have h0 := a (5 * i) (by omega)
  have h1 := a (5 * i + 1) (by omega)
  have h2 := a (5 * i + 2) (by omega)
  have h3 := a (5 * i + 3) (by omega)
  have h4 := a (5 * i + 4) (by omega)
  unfold ch_W; omega
theorem ch_sw_le {n : Nat} {w : Nat → Nat} (ok : ch_ok n w) {i j : Nat} (hi : i < 5) (hj : j < 5) : ch_sw w i j ≤ 9 := by
  unfold ch_sw
  split
  · split <;> omega
  · exact ok.2.2.1 _ (by omega)
theorem ch_tot_le {n : Nat} {w : Nat → Nat} (ok : ch_ok n w) {i : Nat} (hi : i < 5) : ch_tot w i ≤ 45 := by
  have := ch_W_le ok hi
  unfold ch_tot; split <;> omega
theorem ch_tot_pos (w : Nat → Nat) (i : Nat) : 1 ≤ ch_tot w i := by
  unfold ch_tot; split <;> omega
theorem ch_sum {n : Nat} {w : Nat → Nat} (ok : ch_ok n w) {i : Nat} (hi : i < n) : ba_S (fun j => (ch_sw w i j : Int)) n = (ch_tot w i : Int) := by
  obtain ⟨h1, h5, _, hz⟩ := ok
  by_cases z : ch_W w i = 0
  · rw [ba_S_one hi (fun c _ hc => by simp [ch_sw, z, Ne.symm hc])]
    simp [ch_sw, ch_tot, z]
  · have e : ∀ j, ch_sw w i j = w (5 * i + j) := fun j => by simp [ch_sw, z]
    have t : ch_tot w i = ch_W w i := by simp [ch_tot, z]
    simp only [e, t]
    have i5 : i < 5 := by omega
    have z1 := hz i 1 i5 (by omega)
    have z2 := hz i 2 i5 (by omega)
    have z3 := hz i 3 i5 (by omega)
    have z4 := hz i 4 i5 (by omega)
    unfold ch_W
    rcases (by omega : n = 1 ∨ n = 2 ∨ n = 3 ∨ n = 4 ∨ n = 5) with rfl | rfl | rfl | rfl | rfl
    · have := z1 (by omega); have := z2 (by omega); have := z3 (by omega); have := z4 (by omega)
      simp only [ba_S, Nat.add_zero]; omega
    · have := z2 (by omega); have := z3 (by omega); have := z4 (by omega)
      simp only [ba_S, Nat.add_zero]; omega
    · have := z3 (by omega); have := z4 (by omega)
      simp only [ba_S, Nat.add_zero]; omega
    · have := z4 (by omega)
      simp only [ba_S, Nat.add_zero]; omega
    · simp only [ba_S, Nat.add_zero]; omega
theorem ch_sw_le_tot {n : Nat} {w : Nat → Nat} (ok : ch_ok n w) {i j : Nat} (hi : i < n) (hj : j < n) : ch_sw w i j ≤ ch_tot w i := by
  have a := ba_S_ge1 (f := fun j => (ch_sw w i j : Int)) hj (fun c _ => Int.natCast_nonneg _)
  rw [ch_sum ok hi] at a
  omega
theorem ch_N_off {w : Nat → Nat} {s c : Nat} (h : c ≠ s) : ch_N w s c = -(ch_sw w s c : Int) := by
  unfold ch_N; rw [if_neg (Ne.symm h)]; omega
theorem ch_N_b {n : Nat} {w : Nat → Nat} (ok : ch_ok n w) {s c : Nat} (hs : s < n) (hc : c < n) : (ch_N w s c).natAbs ≤ 45 := by
  have h5 := ok.2.1
  have a := ch_sw_le ok (i := s) (j := c) (by omega) (by omega)
  have b := ch_tot_le ok (i := s) (by omega)
  have d := ch_sw_le_tot ok hs hc
  unfold ch_N
  split <;> omega
/-- a certificate out of ranks -/
def ch_x (U : Nat → Bool) (rk : Nat → Nat) (c : Nat) : Int := if U c = true then (205962976 : Int) - ((46 ^ (5 - rk c) : Nat) : Int) else 0
theorem ch_pw {a b : Nat} (h : a < b) (hb : b ≤ 5) : 46 * 46 ^ (5 - b) ≤ 46 ^ (5 - a) := by
  have e : 46 * 46 ^ (5 - b) = 46 ^ (5 - b + 1) := by rw [Nat.pow_succ]; omega
  rw [e]
  exact Nat.pow_le_pow_right (by omega) (by omega)
theorem ch_pw5 {b : Nat} (h : 0 < b) (hb : b ≤ 5) : 46 * 46 ^ (5 - b) ≤ 205962976 := ch_pw (a := 0) h hb
theorem ch_cert {n : Nat} {w : Nat → Nat} (ok : ch_ok n w) {U : Nat → Bool} {rk : Nat → Nat} (hr : ∀ s, s < n → U s = true → 1 ≤ rk s ∧ rk s ≤ 5)
    (hs : ∀ s, s < n → U s = true → ∃ c, c < n ∧ 0 < ch_sw w s c ∧ (U c = true → rk c < rk s)) (s : Nat) (hn : s < n) (us : U s = true) : 0 < ba_S (fun c => (if U c = true then ch_x U rk c else 0) * ch_N w s c) n := by
  have h5 := ok.2.1
  have e : ba_S (fun c => (if U c = true then ch_x U rk c else 0) * ch_N w s c) n = ba_S (fun c => (ch_sw w s c : Int) * (ch_x U rk s - ch_x U rk c)) n := by
    have e1 : ba_S (fun c => (if U c = true then ch_x U rk c else 0) * ch_N w s c) n = ba_S (fun c => (if c = s then ch_x U rk s * (ch_tot w s : Int) else 0) + (-1) * (ch_x U rk c * (ch_sw w s c : Int))) n := by
      apply ba_S_congr
      intro c _
      have ex : (if U c = true then ch_x U rk c else 0) = ch_x U rk c := by
        unfold ch_x; split <;> simp_all
      rw [ex]
      unfold ch_N
      by_cases q : c = s
      · subst q; simp only [if_true]; grind
      · rw [if_neg (Ne.symm q), if_neg q]; grind
    have e2 : ba_S (fun c => (ch_sw w s c : Int) * (ch_x U rk s - ch_x U rk c)) n = ba_S (fun c => ch_x U rk s * (ch_sw w s c : Int) + (-1) * (ch_x U rk c * (ch_sw w s c : Int))) n := by
      apply ba_S_congr
      intro c _
      grind
    rw [e1, e2, ba_S_add, ba_S_add, ba_S_mul (ch_x U rk s), ch_sum ok hn, ba_S_one hn (fun c _ hc => by simp [hc]), if_pos rfl]
  rw [e]
  obtain ⟨r1, r5⟩ := hr s hn us
  generalize hq : 46 ^ (5 - rk s) = q at *
  have q1 : 1 ≤ q := by rw [← hq]; exact Nat.pow_pos (by omega)
  have q5 : 46 * q ≤ 205962976 := by rw [← hq]; exact ch_pw5 r1 r5
  have xs : ch_x U rk s = 205962976 - (q : Int) := by
    unfold ch_x; rw [if_pos us, hq]
  have lo : ∀ c, -(q : Int) ≤ ch_x U rk s - ch_x U rk c := by
    intro c
    rw [xs]
    unfold ch_x
    split
    · have : 1 ≤ 46 ^ (5 - rk c) := Nat.pow_pos (by omega)
      omega
    · omega
  have lo2 : ∀ c, c < n → 0 ≤ (ch_sw w s c : Int) * (ch_x U rk s - ch_x U rk c) + 9 * (q : Int) := by
    intro c hc
    have a := ch_sw_le ok (i := s) (j := c) (by omega) (by omega)
    have b : 0 ≤ (ch_sw w s c : Int) * (ch_x U rk s - ch_x U rk c + (q : Int)) := Int.mul_nonneg (by omega) (by have := lo c; omega)
    have d : (ch_sw w s c : Int) * (q : Int) ≤ 9 * (q : Int) := Int.mul_le_mul_of_nonneg_right (by omega) (by omega)
    rw [Int.mul_add] at b
    omega
  obtain ⟨c, hc, sc, lt⟩ := hs s hn us
  have hi : 45 * (q : Int) ≤ ch_x U rk s - ch_x U rk c := by
    rw [xs]
    by_cases uc : U c = true
    · have a := ch_pw (lt uc) r5
      rw [hq] at a
      unfold ch_x
      rw [if_pos uc]
      omega
    · unfold ch_x
      rw [if_neg uc]
      omega
  have hi2 : 54 * (q : Int) ≤ (ch_sw w s c : Int) * (ch_x U rk s - ch_x U rk c) + 9 * (q : Int) := by
    have b : 0 ≤ ((ch_sw w s c : Int) - 1) * (ch_x U rk s - ch_x U rk c) := Int.mul_nonneg (by omega) (by omega)
    rw [Int.sub_mul, Int.one_mul] at b
    omega
  have g := ba_S_ge1 (f := fun c => (ch_sw w s c : Int) * (ch_x U rk s - ch_x U rk c) + 9 * (q : Int)) hc lo2
  rw [ba_S_add] at g
  have k : ∀ m, ba_S (fun _ => 9 * (q : Int)) m = (m : Int) * (9 * (q : Int)) := by
    intro m
    induction m with
    | zero => simp [ba_S]
    | succ m ih => simp only [ba_S]; rw [ih]; grind
  rw [k n] at g
  have l : (n : Int) * (9 * (q : Int)) ≤ 5 * (9 * (q : Int)) := Int.mul_le_mul_of_nonneg_right (by omega) (by omega)
  omega
/-- the unknown states of a system that can be solved -/
def sv_ok (n : Nat) (w : Nat → Nat) (U : Nat → Bool) : Prop :=
  ∃ g, ∀ k, k ≤ n → ba_T n U (ch_N w) g k (ba_F (ch_N w) (ba_ops U k)) (ba_D (ch_N w) (ba_ops U k))
theorem sv_mk {n : Nat} {w : Nat → Nat} (ok : ch_ok n w) {U : Nat → Bool} {z : Nat} (hz : z < n) (uz : U z = false) {rk : Nat → Nat} (hr : ∀ s, s < n → U s = true → 1 ≤ rk s ∧ rk s ≤ 5)
    (hs : ∀ s, s < n → U s = true → ∃ c, c < n ∧ 0 < ch_sw w s c ∧ (U c = true → rk c < rk s)) : sv_ok n w U := by
  refine ⟨_, ba_tower (x := ch_x U rk) ok.2.1 hz uz ?_ ?_ (ch_cert ok hr hs)⟩
  · intro s _ _ c _ _ hc
    rw [ch_N_off hc]; omega
  · intro c hc uc
    obtain ⟨r1, r5⟩ := hr c hc uc
    have := ch_pw5 r1 r5
    unfold ch_x
    rw [if_pos uc]
    have : 1 ≤ 46 ^ (5 - rk c) := Nat.pow_pos (by omega)
    omega
def sv_F (n : Nat) (w : Nat → Nat) (U : Nat → Bool) (s : Nat) (v : Nat → Int) : Int := ba_F (ch_N w) (ba_ops U n) s v
def sv_D (n : Nat) (w : Nat → Nat) (U : Nat → Bool) : Int := ba_D (ch_N w) (ba_ops U n)
theorem sv_pos {n : Nat} {w : Nat → Nat} {U : Nat → Bool} (h : sv_ok n w U) : 0 < sv_D n w U := by
  obtain ⟨g, h⟩ := h
  exact (h n (Nat.le_refl n)).1
theorem sv_nonneg {n : Nat} {w : Nat → Nat} {U : Nat → Bool} (h : sv_ok n w U) {s : Nat} (hs : s < n) (us : U s = true) {v : Nat → Int} (hv : ∀ t, t < n → U t = true → 0 ≤ v t) : 0 ≤ sv_F n w U s v := by
  obtain ⟨g, h⟩ := h
  exact (h n (Nat.le_refl n)).2.2.2.2.2.2.2.1 s hs us v hv
theorem sv_congr {n : Nat} {w : Nat → Nat} {U : Nat → Bool} (h : sv_ok n w U) {s : Nat} (hs : s < n) (us : U s = true) {v u : Nat → Int} (hv : ∀ t, t < n → U t = true → v t = u t) : sv_F n w U s v = sv_F n w U s u := by
  obtain ⟨g, h⟩ := h
  exact (h n (Nat.le_refl n)).2.2.1 s hs us v u hv
theorem sv_lin {n : Nat} {w : Nat → Nat} {U : Nat → Bool} (h : sv_ok n w U) {s : Nat} (hs : s < n) (us : U s = true) (v u : Nat → Int) (b : Int) : sv_F n w U s (fun t => v t + b * u t) = sv_F n w U s v + b * sv_F n w U s u := by
  obtain ⟨g, h⟩ := h
  exact (h n (Nat.le_refl n)).2.1 s hs us v u b
theorem sv_mul {n : Nat} {w : Nat → Nat} {U : Nat → Bool} (h : sv_ok n w U) {s : Nat} (hs : s < n) (us : U s = true) (u : Nat → Int) (b : Int) : sv_F n w U s (fun t => b * u t) = b * sv_F n w U s u := by
  have e := sv_lin h hs us (fun _ => 0) u b
  rw [show sv_F n w U s (fun _ => 0) = 0 from ba_lin0 (fun v u b => sv_lin h hs us v u b)] at e
  simpa using e
theorem sv_sol {n : Nat} {w : Nat → Nat} {U : Nat → Bool} (h : sv_ok n w U) {s : Nat} (hs : s < n) (us : U s = true) (v : Nat → Int) : sv_D n w U * v s = ba_S (fun c => (if U c = true then ch_N w s c else 0) * sv_F n w U c v) n := by
  obtain ⟨g, h⟩ := h
  have e := (h n (Nat.le_refl n)).2.2.2.2.2.2.2.2 s hs us v
  rw [if_pos hs, Int.add_zero] at e
  unfold sv_D
  rw [e]
  apply ba_S_congr
  intro c hc
  simp only [hc, true_and, sv_F]
theorem sv_uniq {n : Nat} {w : Nat → Nat} {U : Nat → Bool} (h : sv_ok n w U) (v y : Nat → Int) (K : Int)
    (hy : ∀ s, s < n → U s = true → ba_S (fun c => (if U c = true then ch_N w s c else 0) * y c) n = K * v s) {s : Nat} (hs : s < n) (us : U s = true) : y s * sv_D n w U = K * sv_F n w U s v := by
  rw [← sv_mul h hs us v K]
  rw [sv_congr h hs us (v := fun t => K * v t) (u := fun t => ba_S (fun c => (if U c = true then y c else 0) * ch_N w t c) n) ?_]
  · rw [show sv_F n w U s (fun t => ba_S (fun c => (if U c = true then y c else 0) * ch_N w t c) n) = ba_S (fun c => (if U c = true then y c else 0) * sv_F n w U s (fun t => ch_N w t c)) n from ba_linS (F := fun v => sv_F n w U s v) (fun v u b => sv_lin h hs us v u b) (fun c => if U c = true then y c else 0) (ch_N w) n]
    obtain ⟨g, h⟩ := h
    have f := (h n (Nat.le_refl n)).2.2.2.1 s hs us
    rw [ba_S_one hs ?_]
    · rw [if_pos us]
      have := f s hs us
      rw [if_pos rfl] at this
      unfold sv_F sv_D
      rw [this]
    · intro c hc ne
      by_cases uc : U c = true
      · have := f c hc uc
        rw [if_neg (Ne.symm ne)] at this
        unfold sv_F
        rw [this]; simp
      · simp [uc]
  · intro t ht ut
    rw [← hy t ht ut]
    apply ba_S_congr
    intro c _
    by_cases uc : U c = true
    · simp only [uc, if_true]; rw [Int.mul_comm]
    · simp [uc]
end
section
/-! chances, times and visits as quotients of whole numbers -/
def sv_rank (n : Nat) (w : Nat → Nat) (U : Nat → Bool) : Prop :=
  ∃ z, ∃ rk : Nat → Nat, z < n ∧ U z = false ∧ (∀ s, s < n → U s = true → 1 ≤ rk s ∧ rk s ≤ 5) ∧
    (∀ s, s < n → U s = true → ∃ c, c < n ∧ 0 < ch_sw w s c ∧ (U c = true → rk c < rk s))
theorem sv_of {n : Nat} {w : Nat → Nat} (ok : ch_ok n w) {U : Nat → Bool} (h : sv_rank n w U) : sv_ok n w U := by
  obtain ⟨z, rk, hz, uz, hr, hs⟩ := h
  exact sv_mk ok hz uz hr hs
theorem sv_rank_sub {n : Nat} {w : Nat → Nat} {U U' : Nat → Bool} (h : sv_rank n w U) (sub : ∀ s, U' s = true → U s = true) : sv_rank n w U' := by
  obtain ⟨z, rk, hz, uz, hr, hs⟩ := h
  refine ⟨z, rk, hz, ?_, fun s hn us => hr s hn (sub s us), fun s hn us => ?_⟩
  · cases e : U' z
    · rfl
    · rw [sub z e] at uz; cases uz
  · obtain ⟨c, hc, p, lt⟩ := hs s hn (sub s us)
    exact ⟨c, hc, p, fun uc => lt (sub c uc)⟩
theorem sv_row {n : Nat} {w : Nat → Nat} {U : Nat → Bool} {s : Nat} (hs : s < n) (us : U s = true) (y : Nat → Int) : ba_S (fun c => (if U c = true then ch_N w s c else 0) * y c) n = (ch_tot w s : Int) * y s - ba_S (fun c => if U c = true then (ch_sw w s c : Int) * y c else 0) n := by
  have e1 : ba_S (fun c => (if U c = true then ch_N w s c else 0) * y c) n = ba_S (fun c => (if c = s then (ch_tot w s : Int) * y s else 0) + (-1) * (if U c = true then (ch_sw w s c : Int) * y c else 0)) n := by
    apply ba_S_congr
    intro c _
    by_cases q : c = s
    · subst q
      simp only [us, if_true, ch_N]
      grind
    · by_cases uc : U c = true
      · simp only [uc, if_true, if_neg q, ch_N_off q]
        grind
      · simp [uc, q]
  rw [e1, ba_S_add, ba_S_mul, ba_S_one hs (fun c _ hc => by simp [hc]), if_pos rfl]
  omega
theorem sv_restrict {n : Nat} {w : Nat → Nat} {U U' : Nat → Bool} (h : sv_ok n w U) (h' : sv_ok n w U') (sub : ∀ s, U' s = true → U s = true)
    (no : ∀ s, s < n → U' s = true → ∀ c, c < n → U c = true → U' c = false → ch_sw w s c = 0) (v : Nat → Int) {s : Nat} (hs : s < n) (us : U' s = true) :
    sv_F n w U s v * sv_D n w U' = sv_D n w U * sv_F n w U' s v := by
  refine sv_uniq h' v (fun c => sv_F n w U c v) (sv_D n w U) ?_ hs us
  intro t ht ut
  rw [sv_sol h ht (sub t ut) v, sv_row ht ut, sv_row ht (sub t ut)]
  congr 1
  apply ba_S_congr
  intro c hc
  by_cases uc : U' c = true
  · rw [if_pos uc, if_pos (sub c uc)]
  · rw [if_neg uc]
    by_cases vc : U c = true
    · rw [if_pos vc, no t ht ut c hc vc (by simpa using uc)]; simp
    · rw [if_neg vc]
def sv_v (n : Nat) (w : Nat → Nat) (G : Nat → Bool) (s : Nat) : Int := ba_S (fun c => if G c = true then (ch_sw w s c : Int) else 0) n
def sv_H (n : Nat) (w : Nat → Nat) (U G : Nat → Bool) (s : Nat) : Int := if U s = true then sv_F n w U s (sv_v n w G) else if G s = true then sv_D n w U else 0
theorem sv_v_nonneg (n : Nat) (w : Nat → Nat) (G : Nat → Bool) (s : Nat) : 0 ≤ sv_v n w G s := by
  apply ba_S_nonneg
  intro c _
  split <;> omega
theorem sv_v_le {n : Nat} {w : Nat → Nat} (ok : ch_ok n w) (G : Nat → Bool) {s : Nat} (hs : s < n) : sv_v n w G s ≤ (ch_tot w s : Int) := by
  rw [← ch_sum ok hs]
  apply ba_S_le
  intro c _
  split <;> omega
theorem sv_harm {n : Nat} {w : Nat → Nat} {U G : Nat → Bool} (h : sv_ok n w U) (dis : ∀ s, s < n → U s = true → G s = false) {s : Nat} (hs : s < n) (us : U s = true) :
    (ch_tot w s : Int) * sv_H n w U G s = ba_S (fun c => (ch_sw w s c : Int) * sv_H n w U G c) n := by
  have a := sv_sol h hs us (sv_v n w G)
  rw [sv_row hs us] at a
  have e : ba_S (fun c => (ch_sw w s c : Int) * sv_H n w U G c) n = ba_S (fun c => (if U c = true then (ch_sw w s c : Int) * sv_F n w U c (sv_v n w G) else 0) + sv_D n w U * (if G c = true then (ch_sw w s c : Int) else 0)) n := by
    apply ba_S_congr
    intro c hc
    unfold sv_H
    by_cases uc : U c = true
    · simp [uc, dis c hc uc]
    · by_cases gc : G c = true
      · simp only [uc, gc, if_true, if_false]; grind
      · simp [uc, gc]
  rw [e, ba_S_add, ba_S_mul]
  have f : sv_H n w U G s = sv_F n w U s (sv_v n w G) := by unfold sv_H; rw [if_pos us]
  rw [f]
  unfold sv_v at *
  omega
theorem sv_H_nonneg {n : Nat} {w : Nat → Nat} {U G : Nat → Bool} (h : sv_ok n w U) {s : Nat} (hs : s < n) : 0 ≤ sv_H n w U G s := by
  unfold sv_H
  split
  · rename_i us
    exact sv_nonneg h hs us (fun t _ _ => sv_v_nonneg n w G t)
  · split
    · have := sv_pos h; omega
    · exact Int.le_refl _
theorem sv_one {n : Nat} {w : Nat → Nat} {U : Nat → Bool} (h : sv_ok n w U) {v : Nat → Int} (hv : ∀ t, t < n → U t = true → v t ≤ ba_S (fun c => if U c = true then ch_N w t c else 0) n) {s : Nat} (hs : s < n) (us : U s = true) : sv_F n w U s v ≤ sv_D n w U := by
  have a := sv_uniq h (fun t => ba_S (fun c => if U c = true then ch_N w t c else 0) n) (fun _ => 1) 1 (fun t _ _ => by simp) hs us
  have b := sv_lin h hs us v (fun t => ba_S (fun c => if U c = true then ch_N w t c else 0) n - v t) 1
  have c := sv_nonneg h hs us (v := fun t => ba_S (fun c => if U c = true then ch_N w t c else 0) n - v t) (fun t ht ut => by have := hv t ht ut; omega)
  have e : (fun t => v t + 1 * (ba_S (fun c => if U c = true then ch_N w t c else 0) n - v t)) = (fun t => ba_S (fun c => if U c = true then ch_N w t c else 0) n) := by
    funext t; omega
  rw [e] at b
  omega
theorem sv_rowsum {n : Nat} {w : Nat → Nat} (ok : ch_ok n w) {U : Nat → Bool} {s : Nat} (hs : s < n) (us : U s = true) : ba_S (fun c => if U c = true then ch_N w s c else 0) n = ba_S (fun c => if U c = true then 0 else (ch_sw w s c : Int)) n := by
  have a := sv_row (w := w) hs us (fun _ => 1)
  simp only [Int.mul_one] at a
  rw [a, ← ch_sum ok hs]
  have e : ba_S (fun c => (ch_sw w s c : Int)) n = ba_S (fun c => (if U c = true then (ch_sw w s c : Int) else 0) + (if U c = true then 0 else (ch_sw w s c : Int))) n := by
    apply ba_S_congr
    intro c _
    split <;> omega
  rw [e, ba_S_add]
  omega
theorem sv_H_le {n : Nat} {w : Nat → Nat} (ok : ch_ok n w) {U G : Nat → Bool} (h : sv_ok n w U) (dis : ∀ s, s < n → U s = true → G s = false) {s : Nat} (hs : s < n) : sv_H n w U G s ≤ sv_D n w U := by
  unfold sv_H
  split
  · rename_i us
    refine sv_one h ?_ hs us
    intro t ht ut
    rw [sv_rowsum ok ht ut]
    apply ba_S_le
    intro c hc
    by_cases uc : U c = true
    · rw [if_pos uc, dis c hc uc]; simp
    · rw [if_neg uc]; split <;> omega
  · have := sv_pos h
    split <;> omega
theorem sv_sure {n : Nat} {w : Nat → Nat} (ok : ch_ok n w) {U G : Nat → Bool} (h : sv_ok n w U) (dis : ∀ s, s < n → U s = true → G s = false) {s : Nat} (hs : s < n) (us : U s = true) (e : sv_H n w U G s = sv_D n w U) {c : Nat} (hc : c < n) (sc : 0 < ch_sw w s c) : sv_H n w U G c = sv_D n w U := by
  have a := sv_harm h dis hs us
  rw [e, ← ch_sum ok hs, Int.mul_comm, ← ba_S_mul] at a
  have b : ba_S (fun c => (ch_sw w s c : Int) * (sv_D n w U - sv_H n w U G c)) n = 0 := by
    have q : ba_S (fun c => (ch_sw w s c : Int) * (sv_D n w U - sv_H n w U G c)) n = ba_S (fun c => sv_D n w U * (ch_sw w s c : Int) + (-1) * ((ch_sw w s c : Int) * sv_H n w U G c)) n := by
      apply ba_S_congr
      intro c _
      grind
    rw [q, ba_S_add, ba_S_mul (-1)]
    omega
  have d := ba_S_ge1 (f := fun c => (ch_sw w s c : Int) * (sv_D n w U - sv_H n w U G c)) hc (fun t ht => Int.mul_nonneg (by omega) (by have := sv_H_le ok h dis ht; omega))
  rw [b] at d
  have l := sv_H_le ok h dis hc
  have k : sv_D n w U - sv_H n w U G c ≤ 0 := by
    apply Int.le_of_mul_le_mul_left (a := (ch_sw w s c : Int)) _ (by omega)
    simpa using d
  omega
/-- times: on the states that come for sure, the system of all that lead there and the system of the sure ones agree -/
theorem sv_time {n : Nat} {w : Nat → Nat} (ok : ch_ok n w) {U G U' : Nat → Bool} (r : sv_rank n w U) (dis : ∀ s, s < n → U s = true → G s = false)
    (hU' : ∀ s, U' s = true ↔ (U s = true ∧ sv_H n w U G s = sv_D n w U)) (v : Nat → Int) {s : Nat} (hs : s < n) (us : U' s = true) :
    sv_F n w U s v * sv_D n w U' = sv_D n w U * sv_F n w U' s v := by
  have sub : ∀ s, U' s = true → U s = true := fun s h => ((hU' s).mp h).1
  refine sv_restrict (sv_of ok r) (sv_of ok (sv_rank_sub r sub)) sub ?_ v hs us
  intro t ht ut c hc uc nc
  rcases Nat.eq_zero_or_pos (ch_sw w t c) with z | z
  · exact z
  · exfalso
    have := sv_sure ok (sv_of ok r) dis ht ((hU' t).mp ut).1 ((hU' t).mp ut).2 hc z
    rw [(hU' c).mpr ⟨uc, this⟩] at nc
    cases nc
/-- visits: out of the chance to come and the chance to come back -/
theorem sv_visit {n : Nat} {w : Nat → Nat} (ok : ch_ok n w) {U V : Nat → Bool} {j : Nat} (hj : j < n) (r : sv_rank n w U) (rV : sv_rank n w V)
    (hU : ∀ s, s < n → (U s = true ↔ (V s = true ∧ s ≠ j))) (vj : V j = true) :
    let H := sv_H n w U (fun s => decide (s = j))
    let R := (ch_tot w j : Int) * sv_D n w U - ba_S (fun c => (ch_sw w j c : Int) * H c) n
    0 < R ∧ ∀ s, s < n → V s = true → (ch_tot w j : Int) * H s * sv_D n w V = R * sv_F n w V s (fun t => if t = j then (ch_tot w j : Int) else 0) := by
  intro H R
  have h := sv_of ok r
  have hV := sv_of ok rV
  have dis : ∀ s, s < n → U s = true → (fun s => decide (s = j)) s = false := fun s hs us => by
    have := ((hU s hs).mp us).2
    simpa using this
  have Hj : H j = sv_D n w U := by
    show sv_H n w U (fun s => decide (s = j)) j = _
    unfold sv_H
    have : ¬ U j = true := fun u => ((hU j hj).mp u).2 rfl
    simp [this]
  have H0 : ∀ c, c < n → ¬ V c = true → H c = 0 := by
    intro c hc nv
    show sv_H n w U (fun s => decide (s = j)) c = 0
    unfold sv_H
    have n1 : ¬ U c = true := fun u => nv ((hU c hc).mp u).1
    have n2 : ¬ c = j := fun e => nv (e ▸ vj)
    simp [n1, n2]
  have row : ∀ s, s < n → V s = true → ba_S (fun c => (if V c = true then ch_N w s c else 0) * H c) n = (ch_tot w s : Int) * H s - ba_S (fun c => (ch_sw w s c : Int) * H c) n := by
    intro s hs vs
    rw [sv_row hs vs]
    congr 1
    apply ba_S_congr
    intro c hc
    by_cases vc : V c = true
    · rw [if_pos vc]
    · rw [if_neg vc, H0 c hc vc]; simp
  have key : ∀ s, s < n → V s = true → ba_S (fun c => (if V c = true then ch_N w s c else 0) * H c) n = if s = j then R else 0 := by
    intro s hs vs
    rw [row s hs vs]
    by_cases e : s = j
    · rw [if_pos e, e, Hj]
    · rw [if_neg e]
      have := sv_harm h dis hs ((hU s hs).mpr ⟨vs, e⟩)
      show (ch_tot w s : Int) * sv_H n w U (fun s => decide (s = j)) s - _ = 0
      rw [this]
      exact Int.sub_self _
  have R0 : 0 ≤ R := by
    have : R = ba_S (fun c => (ch_sw w j c : Int) * (sv_D n w U - H c)) n := by
      have q : ba_S (fun c => (ch_sw w j c : Int) * (sv_D n w U - H c)) n = ba_S (fun c => sv_D n w U * (ch_sw w j c : Int) + (-1) * ((ch_sw w j c : Int) * H c)) n := by
        apply ba_S_congr
        intro c _
        grind
      rw [q, ba_S_add, ba_S_mul, ba_S_mul (-1), ch_sum ok hj]
      show _ = _
      grind
    rw [this]
    apply ba_S_nonneg
    intro c hc
    exact Int.mul_nonneg (by omega) (by have := sv_H_le ok h dis hc; show 0 ≤ sv_D n w U - sv_H n w U (fun s => decide (s = j)) c; omega)
  have un : ∀ s, s < n → V s = true → (ch_tot w j : Int) * H s * sv_D n w V = R * sv_F n w V s (fun t => if t = j then (ch_tot w j : Int) else 0) := by
    intro s hs vs
    refine sv_uniq hV (fun t => if t = j then (ch_tot w j : Int) else 0) (fun c => (ch_tot w j : Int) * H c) R ?_ hs vs
    intro t ht vt
    have e : ba_S (fun c => (if V c = true then ch_N w t c else 0) * ((ch_tot w j : Int) * H c)) n = (ch_tot w j : Int) * ba_S (fun c => (if V c = true then ch_N w t c else 0) * H c) n := by
      rw [← ba_S_mul]
      apply ba_S_congr
      intro c _
      grind
    rw [e, key t ht vt]
    by_cases q : t = j
    · rw [if_pos q, if_pos q]; exact Int.mul_comm _ _
    · rw [if_neg q, if_neg q]; simp
  refine ⟨?_, un⟩
  have z := un j hj vj
  rw [Hj] at z
  have p1 := sv_pos h
  have p2 := sv_pos hV
  have p3 := ch_tot_pos w j
  have p4 : 0 < (ch_tot w j : Int) * sv_D n w U * sv_D n w V := Int.mul_pos (Int.mul_pos (by omega) p1) p2
  rcases Int.lt_or_eq_of_le R0 with q | q
  · exact q
  · rw [← q] at z
    rw [z] at p4
    simp at p4
end
section
/-! longs as whole numbers -/
theorem lz_in {z : Int} (h : z.natAbs < 9223372036854775808) : Int64.minValue.toInt ≤ z ∧ z ≤ Int64.maxValue.toInt := by
  have a : Int64.minValue.toInt = -9223372036854775808 := rfl
  have b : Int64.maxValue.toInt = 9223372036854775807 := rfl
  omega
theorem lz_div {a b : Int} (ha : a.natAbs < 9223372036854775808) (hb : b.natAbs < 9223372036854775808) : Int64.ofInt a / Int64.ofInt b = Int64.ofInt (a.tdiv b) :=
  (Int64.ofInt_tdiv (lz_in ha).1 (lz_in ha).2 (lz_in hb).1 (lz_in hb).2).symm
theorem lz_lt {a b : Int} (ha : a.natAbs < 9223372036854775808) (hb : b.natAbs < 9223372036854775808) : Int64.ofInt a < Int64.ofInt b ↔ a < b :=
  Int64.ofInt_lt_iff_lt (lz_in ha).1 (lz_in ha).2 (lz_in hb).1 (lz_in hb).2
theorem lz_le {a b : Int} (ha : a.natAbs < 9223372036854775808) (hb : b.natAbs < 9223372036854775808) : Int64.ofInt a ≤ Int64.ofInt b ↔ a ≤ b :=
  Int64.ofInt_le_iff_le (lz_in ha).1 (lz_in ha).2 (lz_in hb).1 (lz_in hb).2
theorem lz_toInt {a : Int} (ha : a.natAbs < 9223372036854775808) : (Int64.ofInt a).toInt = a := by
  apply Int64.toInt_ofInt_of_le <;> omega
theorem lz_eq {a b : Int} (ha : a.natAbs < 9223372036854775808) (hb : b.natAbs < 9223372036854775808) : Int64.ofInt a = Int64.ofInt b ↔ a = b := by
  constructor
  · intro h
    have := congrArg Int64.toInt h
    rwa [lz_toInt ha, lz_toInt hb] at this
  · intro h; rw [h]
theorem lz_0 : (0 : Int64) = Int64.ofInt 0 := rfl
theorem lz_1 : (1 : Int64) = Int64.ofInt 1 := rfl
theorem lz_eq0 {a : Int} (ha : a.natAbs < 9223372036854775808) : Int64.ofInt a = 0 ↔ a = 0 := by
  rw [lz_0]; exact lz_eq ha (by decide)
theorem lz_nat (n : Nat) : lN n = Int64.ofInt (n : Int) := Int64.ofInt_eq_ofNat.symm
theorem lz_exact {a d q : Int} (hd : d ≠ 0) (h : a = d * q) (ha : a.natAbs < 9223372036854775808) (hb : d.natAbs < 9223372036854775808) : Int64.ofInt a / Int64.ofInt d = Int64.ofInt q := by
  rw [lz_div ha hb, h, Int.mul_tdiv_cancel_left _ hd]
/-! fractions in lowest terms -/
theorem fr_ex (p : Int) {q : Int} (hq : 0 < q) : ∃ m : Int, 0 < m ∧ p = (Rat.divInt p q).num * m ∧ q = ((Rat.divInt p q).den : Int) * m := by
  obtain ⟨m, hm, h1, h2⟩ := Rat.divInt_num_den (n := p) (d := q) (n' := (Rat.divInt p q).num) (d' := (Rat.divInt p q).den) (z' := (Rat.divInt p q).den_nz) (c := (Rat.divInt p q).reduced) (by omega) rfl
  refine ⟨m, ?_, h1, h2⟩
  have d0 : 0 < ((Rat.divInt p q).den : Int) := by have := (Rat.divInt p q).den_pos; omega
  rw [h2] at hq
  exact Int.pos_of_mul_pos_right hq d0
theorem fr_den_pos (p q : Int) : 0 < ((Rat.divInt p q).den : Int) := by have := (Rat.divInt p q).den_pos; omega
theorem fr_le (p : Int) {q : Int} (hq : 0 < q) : (Rat.divInt p q).num.natAbs ≤ p.natAbs ∧ ((Rat.divInt p q).den : Int) ≤ q := by
  obtain ⟨m, hm, h1, h2⟩ := fr_ex p hq
  have d0 := fr_den_pos p q
  constructor
  · have : p.natAbs = (Rat.divInt p q).num.natAbs * m.natAbs := by rw [← Int.natAbs_mul, ← h1]
    rw [this]
    exact Nat.le_mul_of_pos_right _ (by omega)
  · have : ((Rat.divInt p q).den : Int) * 1 ≤ ((Rat.divInt p q).den : Int) * m := Int.mul_le_mul_of_nonneg_left (by omega) (by omega)
    omega
theorem fr_eq {p q p' q' : Int} (hq : 0 < q) (hq' : 0 < q') (h : p * q' = p' * q) : Rat.divInt p q = Rat.divInt p' q' :=
  (Rat.divInt_eq_divInt_iff (by omega) (by omega)).mpr h
theorem fr_cross {p q p' q' : Int} (hq : 0 < q) (hq' : 0 < q') (h : Rat.divInt p q = Rat.divInt p' q') : p * q' = p' * q :=
  (Rat.divInt_eq_divInt_iff (by omega) (by omega)).mp h
theorem fr_pair (p : Int) {q : Int} (hq : 0 < q) : p.tdiv (Int.gcd p q : Int) = (Rat.divInt p q).num ∧ q.tdiv (Int.gcd p q : Int) = ((Rat.divInt p q).den : Int) := by
  obtain ⟨m, hm, h1, h2⟩ := fr_ex p hq
  generalize Rat.divInt p q = x at *
  subst h1 h2
  have g : (Int.gcd (x.num * m) ((x.den : Int) * m) : Int) = m := by
    have e : Int.gcd (x.num * m) ((x.den : Int) * m) = m.natAbs := by
      rw [Int.gcd_mul_right]
      have : Int.gcd x.num (x.den : Int) = 1 := x.reduced
      rw [this, Nat.one_mul]
    omega
  rw [g]
  exact ⟨Int.mul_tdiv_cancel _ (by omega), Int.mul_tdiv_cancel _ (by omega)⟩
/-- crosswise cancelling, then multiplying -/
theorem fr_mul {x y u v : Int} (hy : 0 < y) (hv : 0 < v) :
    Rat.divInt (x.tdiv (Int.gcd x v : Int) * u.tdiv (Int.gcd u y : Int)) (y.tdiv (Int.gcd u y : Int) * v.tdiv (Int.gcd x v : Int)) = Rat.divInt (x * u) (y * v) ∧
    0 < y.tdiv (Int.gcd u y : Int) * v.tdiv (Int.gcd x v : Int) ∧
    (x.tdiv (Int.gcd x v : Int) * u.tdiv (Int.gcd u y : Int)).natAbs ≤ (x * u).natAbs ∧
    y.tdiv (Int.gcd u y : Int) * v.tdiv (Int.gcd x v : Int) ≤ y * v := by
  have d0 : 0 < (Int.gcd x v : Int) := by
    have := Int.gcd_pos_of_ne_zero_right (a := x) (b := v) (by omega); omega
  have e0 : 0 < (Int.gcd u y : Int) := by
    have := Int.gcd_pos_of_ne_zero_right (a := u) (b := y) (by omega); omega
  obtain ⟨x', hx⟩ := Int.gcd_dvd_left (a := x) (b := v)
  obtain ⟨v', hv'⟩ := Int.gcd_dvd_right (a := x) (b := v)
  obtain ⟨u', hu⟩ := Int.gcd_dvd_left (a := u) (b := y)
  obtain ⟨y', hy'⟩ := Int.gcd_dvd_right (a := u) (b := y)
  generalize (Int.gcd x v : Int) = d at *
  generalize (Int.gcd u y : Int) = e at *
  subst hx hv' hu hy'
  rw [Int.mul_tdiv_cancel_left _ (by omega), Int.mul_tdiv_cancel_left _ (by omega), Int.mul_tdiv_cancel_left _ (by omega), Int.mul_tdiv_cancel_left _ (by omega)]
  have y0 := Int.pos_of_mul_pos_right hy e0
  have v0 := Int.pos_of_mul_pos_right hv d0
  have q0 := Int.mul_pos y0 v0
  have k0 : 1 ≤ d * e := Int.mul_pos d0 e0
  have e1 : d * x' * (e * u') = (d * e) * (x' * u') := by grind
  have e2 : e * y' * (d * v') = (d * e) * (y' * v') := by grind
  rw [e1, e2]
  refine ⟨(Rat.divInt_mul_left (by omega)).symm, q0, ?_, ?_⟩
  · rw [Int.natAbs_mul (d * e)]
    exact Nat.le_mul_of_pos_left _ (by omega)
  · have := Int.mul_le_mul_of_nonneg_right k0 (Int.le_of_lt q0)
    omega
/-- when both are in lowest terms, so is the product: no number on the way is larger than the answer -/
theorem fr_mulR {x y u v : Int} (hy : 0 < y) (hv : 0 < v) (c1 : Int.gcd x y = 1) (c2 : Int.gcd u v = 1) :
    x.tdiv (Int.gcd x v : Int) * u.tdiv (Int.gcd u y : Int) = (Rat.divInt (x * u) (y * v)).num ∧ y.tdiv (Int.gcd u y : Int) * v.tdiv (Int.gcd x v : Int) = ((Rat.divInt (x * u) (y * v)).den : Int) := by
  obtain ⟨h1, h2, _, _⟩ := fr_mul (x := x) (u := u) hy hv
  have d0 : 0 < Int.gcd x v := Int.gcd_pos_of_ne_zero_right (a := x) (b := v) (by omega)
  have e0 : 0 < Int.gcd u y := Int.gcd_pos_of_ne_zero_right (a := u) (b := y) (by omega)
  obtain ⟨x', hx⟩ := Int.gcd_dvd_left (a := x) (b := v)
  obtain ⟨v', hv'⟩ := Int.gcd_dvd_right (a := x) (b := v)
  obtain ⟨u', hu⟩ := Int.gcd_dvd_left (a := u) (b := y)
  obtain ⟨y', hy'⟩ := Int.gcd_dvd_right (a := u) (b := y)
  have tx : x.tdiv (Int.gcd x v : Int) = x' := by conv => lhs; arg 1; rw [hx]
                                                  exact Int.mul_tdiv_cancel_left _ (by omega)
  have tv : v.tdiv (Int.gcd x v : Int) = v' := by conv => lhs; arg 1; rw [hv']
                                                  exact Int.mul_tdiv_cancel_left _ (by omega)
  have tu : u.tdiv (Int.gcd u y : Int) = u' := by conv => lhs; arg 1; rw [hu]
                                                  exact Int.mul_tdiv_cancel_left _ (by omega)
  have ty : y.tdiv (Int.gcd u y : Int) = y' := by conv => lhs; arg 1; rw [hy']
                                                  exact Int.mul_tdiv_cancel_left _ (by omega)
  rw [tx, tv, tu, ty] at h1
  rw [tv, ty] at h2
  rw [tx, tu, tv, ty, ← h1]
  have cxv : Int.gcd x' v' = 1 := by
    have g : Int.gcd x v = Int.gcd ((Int.gcd x v : Int) * x') ((Int.gcd x v : Int) * v') := by rw [← hx, ← hv']
    rw [Int.gcd_mul_left] at g
    simp only [Int.natAbs_natCast] at g
    have : Int.gcd x v * 1 = Int.gcd x v * Int.gcd x' v' := by omega
    exact (Nat.eq_of_mul_eq_mul_left d0 this).symm
  have cuy : Int.gcd u' y' = 1 := by
    have g : Int.gcd u y = Int.gcd ((Int.gcd u y : Int) * u') ((Int.gcd u y : Int) * y') := by rw [← hu, ← hy']
    rw [Int.gcd_mul_left] at g
    simp only [Int.natAbs_natCast] at g
    have : Int.gcd u y * 1 = Int.gcd u y * Int.gcd u' y' := by omega
    exact (Nat.eq_of_mul_eq_mul_left e0 this).symm
  have dv : ∀ {a b c d : Int}, Int.gcd (a * b) (c * d) = 1 → Int.gcd b d = 1 := by
    intro a b c d h
    have h1 : Int.gcd b d ∣ Int.gcd (a * b) (c * d) := by
      apply Int.dvd_gcd
      · exact Int.dvd_trans (Int.gcd_dvd_left _ _) (Int.dvd_mul_left _ _)
      · exact Int.dvd_trans (Int.gcd_dvd_right _ _) (Int.dvd_mul_left _ _)
    rw [h] at h1
    exact Nat.dvd_one.mp h1
  have cxy : Int.gcd x' y' = 1 := by
    rw [hx, hy'] at c1
    exact dv c1
  have cuv : Int.gcd u' v' = 1 := by
    rw [hu, hv'] at c2
    exact dv c2
  have co : Int.gcd (x' * u') (y' * v') = 1 := by
    have a1 : Nat.Coprime x'.natAbs y'.natAbs := cxy
    have a2 : Nat.Coprime x'.natAbs v'.natAbs := cxv
    have a3 : Nat.Coprime u'.natAbs y'.natAbs := cuy
    have a4 : Nat.Coprime u'.natAbs v'.natAbs := cuv
    show Nat.gcd (x' * u').natAbs (y' * v').natAbs = 1
    rw [Int.natAbs_mul, Int.natAbs_mul]
    exact Nat.Coprime.mul_left (Nat.Coprime.mul_right a1 a2) (Nat.Coprime.mul_right a3 a4)
  have f := fr_pair (x' * u') h2
  rw [co] at f
  simp only [Int.natCast_one, Int.tdiv_one] at f
  exact f
/-- adding over the least common denominator -/
theorem fr_add {x y u v : Int} (hy : 0 < y) (hv : 0 < v) :
    Rat.divInt (x * v.tdiv (Int.gcd y v : Int) + u * y.tdiv (Int.gcd y v : Int)) (y.tdiv (Int.gcd y v : Int) * v) = Rat.divInt (x * v + u * y) (y * v) ∧
    0 < y.tdiv (Int.gcd y v : Int) * v ∧ y.tdiv (Int.gcd y v : Int) * v ≤ y * v ∧
    (x * v.tdiv (Int.gcd y v : Int)).natAbs ≤ (x * v).natAbs ∧ (u * y.tdiv (Int.gcd y v : Int)).natAbs ≤ (u * y).natAbs := by
  have d0 : 0 < (Int.gcd y v : Int) := by
    have := Int.gcd_pos_of_ne_zero_right (a := y) (b := v) (by omega); omega
  obtain ⟨y', hy'⟩ := Int.gcd_dvd_left (a := y) (b := v)
  obtain ⟨v', hv'⟩ := Int.gcd_dvd_right (a := y) (b := v)
  generalize (Int.gcd y v : Int) = d at *
  subst hy' hv'
  rw [Int.mul_tdiv_cancel_left _ (by omega), Int.mul_tdiv_cancel_left _ (by omega)]
  have y0 := Int.pos_of_mul_pos_right hy d0
  have v0 := Int.pos_of_mul_pos_right hv d0
  have q0 : 0 < y' * (d * v') := Int.mul_pos y0 hv
  have e1 : x * (d * v') + u * (d * y') = d * (x * v' + u * y') := by grind
  have e2 : d * y' * (d * v') = d * (y' * (d * v')) := by grind
  have e3 : x * (d * v') = d * (x * v') := by grind
  have e4 : u * (d * y') = d * (u * y') := by grind
  refine ⟨?_, q0, ?_, ?_, ?_⟩
  · rw [e1, e2]; exact (Rat.divInt_mul_left (by omega)).symm
  · rw [e2]
    have := Int.mul_le_mul_of_nonneg_right (show (1 : Int) ≤ d by omega) (Int.le_of_lt q0)
    omega
  · rw [e3, Int.natAbs_mul d]; exact Nat.le_mul_of_pos_left _ (by omega)
  · rw [e4, Int.natAbs_mul d]; exact Nat.le_mul_of_pos_left _ (by omega)
/-- two fractions over one denominator V: nothing on the way is larger than what stands over V -/
theorem fr_addV (p1 p2 : Int) {V : Int} (hV : 0 < V) {x y u v : Int} (hx : x = (Rat.divInt p1 V).num) (hy : y = ((Rat.divInt p1 V).den : Int)) (hu : u = (Rat.divInt p2 V).num) (hv : v = ((Rat.divInt p2 V).den : Int)) :
    Rat.divInt (x * v.tdiv (Int.gcd y v : Int) + u * y.tdiv (Int.gcd y v : Int)) (y.tdiv (Int.gcd y v : Int) * v) = Rat.divInt (p1 + p2) V ∧
    0 < y.tdiv (Int.gcd y v : Int) * v ∧ y.tdiv (Int.gcd y v : Int) * v ≤ V ∧
    (x * v.tdiv (Int.gcd y v : Int)).natAbs ≤ p1.natAbs ∧ (u * y.tdiv (Int.gcd y v : Int)).natAbs ≤ p2.natAbs := by
  have y0 : 0 < y := hy ▸ fr_den_pos p1 V
  have v0 : 0 < v := hv ▸ fr_den_pos p2 V
  obtain ⟨a1, a2, a3, a4, a5⟩ := fr_add (x := x) (u := u) y0 v0
  obtain ⟨m1, h1, e1, f1⟩ := fr_ex p1 hV
  obtain ⟨m2, h2, e2, f2⟩ := fr_ex p2 hV
  rw [← hx] at e1
  rw [← hy] at f1
  rw [← hu] at e2
  rw [← hv] at f2
  have eq : Rat.divInt (x * v + u * y) (y * v) = Rat.divInt (p1 + p2) V := by
    apply fr_eq (Int.mul_pos y0 v0) hV
    rw [e1, e2]
    have g1 : x * v * V = x * m1 * (y * v) := by rw [f1]; grind
    have g2 : u * y * V = u * m2 * (y * v) := by rw [f2]; grind
    rw [Int.add_mul, Int.add_mul, g1, g2]
  rw [eq] at a1
  have d0 : 0 < Int.gcd y v := Int.gcd_pos_of_ne_zero_right (a := y) (b := v) (by omega)
  obtain ⟨y', hy'⟩ := Int.gcd_dvd_left (a := y) (b := v)
  obtain ⟨v', hv'⟩ := Int.gcd_dvd_right (a := y) (b := v)
  have ty : y.tdiv (Int.gcd y v : Int) = y' := by conv => lhs; arg 1; rw [hy']
                                                  exact Int.mul_tdiv_cancel_left _ (by omega)
  have tv : v.tdiv (Int.gcd y v : Int) = v' := by conv => lhs; arg 1; rw [hv']
                                                  exact Int.mul_tdiv_cancel_left _ (by omega)
  have co : Int.gcd y' v' = 1 := by
    have g : Int.gcd y v = Int.gcd ((Int.gcd y v : Int) * y') ((Int.gcd y v : Int) * v') := by rw [← hy', ← hv']
    rw [Int.gcd_mul_left] at g
    simp only [Int.natAbs_natCast] at g
    have : Int.gcd y v * 1 = Int.gcd y v * Int.gcd y' v' := by omega
    exact (Nat.eq_of_mul_eq_mul_left d0 this).symm
  rw [ty, tv] at a1
  rw [ty] at a2
  rw [ty, tv]
  generalize hd : (Int.gcd y v : Int) = d at *
  have d1 : 0 < d := by omega
  have k0 : y' * m1 = v' * m2 := by
    apply ba_cancel d1
    have : d * y' * m1 = d * v' * m2 := by rw [← hy', ← hv', ← f1, ← f2]
    grind
  have dv : v' ∣ m1 := by
    have c1 : v'.natAbs ∣ y'.natAbs * m1.natAbs := by
      rw [← Int.natAbs_mul, k0, Int.natAbs_mul]; exact Nat.dvd_mul_right _ _
    have c2 : Nat.Coprime v'.natAbs y'.natAbs := by
      have : Nat.gcd y'.natAbs v'.natAbs = 1 := co
      exact Nat.Coprime.symm this
    exact Int.natAbs_dvd_natAbs.mp (Nat.Coprime.dvd_of_dvd_mul_left c2 c1)
  obtain ⟨k, hk⟩ := dv
  have yp : 0 < y' := by rw [hy'] at y0; exact Int.pos_of_mul_pos_right y0 d1
  have vp : 0 < v' := by rw [hv'] at v0; exact Int.pos_of_mul_pos_right v0 d1
  have kp : 0 < k := by rw [hk] at h1; exact Int.pos_of_mul_pos_right h1 vp
  have m2k : m2 = y' * k := by
    apply ba_cancel vp
    rw [← k0, hk]; grind
  refine ⟨a1, a2, ?_, ?_, ?_⟩
  · have : V = y' * v * k := by rw [f1, hk, hy', hv']; grind
    have q : y' * v * 1 ≤ y' * v * k := Int.mul_le_mul_of_nonneg_left (by omega) (by omega)
    omega
  · have : p1 = x * v' * k := by rw [e1, hk]; grind
    rw [this, Int.natAbs_mul (x * v')]
    exact Nat.le_mul_of_pos_right _ (by omega)
  · have : p2 = u * y' * k := by rw [e2, m2k]; grind
    rw [this, Int.natAbs_mul (u * y')]
    exact Nat.le_mul_of_pos_right _ (by omega)
end
section
/-! rows of exactly k steps, and the greatest number that divides the lengths of those that lead back -/
def pe_W (n : Nat) (E : Nat → Nat → Prop) (a : Nat) : Nat → Nat → Prop
  | 0, b => b = a
  | k + 1, b => b < n ∧ ∃ x, x < n ∧ pe_W n E a k x ∧ E x b
theorem pe_W_lt {n : Nat} {E : Nat → Nat → Prop} {a : Nat} (ha : a < n) : ∀ {k b}, pe_W n E a k b → b < n := by
  intro k b h
  cases k with
  | zero => rw [show b = a from h]; exact ha
  | succ k => exact h.1
theorem pe_cat {n : Nat} {E : Nat → Nat → Prop} {a b : Nat} {k : Nat} (h : pe_W n E a k b) : ∀ {m c}, pe_W n E b m c → pe_W n E a (k + m) c := by
  intro m
  induction m with
  | zero => intro c hc; rw [show c = b from hc]; exact h
  | succ m ih =>
    intro c hc
    obtain ⟨hn, x, hx, w, e⟩ := hc
    exact ⟨hn, x, hx, ih w, e⟩
theorem pe_R {n : Nat} {E : Nat → Nat → Prop} {a : Nat} : ∀ {k b}, pe_W n E a k b → gr_R n E (fun _ => False) a k b := by
  intro k
  induction k with
  | zero => intro b h; exact h
  | succ k ih =>
    intro b h
    obtain ⟨hn, x, hx, w, e⟩ := h
    exact .inr ⟨hn, x, hx, ih w, fun z => z, e⟩
theorem pe_ofR {n : Nat} {E : Nat → Nat → Prop} {a : Nat} : ∀ {k b}, gr_R n E (fun _ => False) a k b → ∃ m, m ≤ k ∧ pe_W n E a m b := by
  intro k
  induction k with
  | zero => intro b h; exact ⟨0, Nat.le_refl _, h⟩
  | succ k ih =>
    intro b h
    rcases h with h | ⟨hn, x, hx, r, _, e⟩
    · obtain ⟨m, hm, w⟩ := ih h
      exact ⟨m, by omega, w⟩
    · obtain ⟨m, hm, w⟩ := ih r
      exact ⟨m + 1, by omega, hn, x, hx, w, e⟩
theorem pe_short {n : Nat} {E : Nat → Nat → Prop} {a b k : Nat} (ha : a < n) (h : pe_W n E a k b) : ∃ m, m ≤ n - 1 ∧ pe_W n E a m b :=
  pe_ofR (gr_R_stab ha k b (pe_R h))
theorem pe_fun {n : Nat} {E : Nat → Nat → Prop} {a : Nat} (ha : a < n) : ∀ {k b}, pe_W n E a k b → ∃ f : Nat → Nat, f 0 = a ∧ f k = b ∧ (∀ t, t ≤ k → f t < n) ∧ ∀ t, t < k → E (f t) (f (t + 1)) := by
  intro k
  induction k with
  | zero => intro b h; exact ⟨fun _ => a, rfl, h.symm, fun _ _ => ha, fun t ht => absurd ht (by omega)⟩
  | succ k ih =>
    intro b h
    obtain ⟨hn, x, hx, w, e⟩ := h
    obtain ⟨f, f0, fk, fl, fe⟩ := ih w
    refine ⟨fun t => if t = k + 1 then b else f t, ?_, ?_, ?_, ?_⟩
    · simp [f0]
    · simp
    · intro t ht
      by_cases q : t = k + 1
      · simp [q, hn]
      · simp only [q, if_false]; exact fl t (by omega)
    · intro t ht
      by_cases q : t = k
      · subst q
        simp only [if_true]
        rw [if_neg (by omega), fk]; exact e
      · show E (if t = k + 1 then b else f t) (if t + 1 = k + 1 then b else f (t + 1))
        rw [if_neg (by omega), if_neg (by omega)]; exact fe t (by omega)
theorem pe_seg {n : Nat} {E : Nat → Nat → Prop} {f : Nat → Nat} {k : Nat} (fl : ∀ t, t ≤ k → f t < n) (fe : ∀ t, t < k → E (f t) (f (t + 1))) (s : Nat) : ∀ d, s + d ≤ k → pe_W n E (f s) d (f (s + d)) := by
  intro d
  induction d with
  | zero => intro _; rfl
  | succ d ih =>
    intro h
    exact ⟨fl _ h, f (s + d), fl _ (by omega), ih (by omega), fe _ (by omega)⟩
theorem pe_pigeon : ∀ (n : Nat) (f : Nat → Nat), (∀ t, t ≤ n → f t < n) → ∃ s d, 0 < d ∧ s + d ≤ n ∧ f s = f (s + d) := by
  intro n
  induction n with
  | zero => intro f h; exact absurd (h 0 (Nat.le_refl _)) (by omega)
  | succ n ih =>
    intro f h
    by_cases q : ∃ t, t ≤ n ∧ f t = f (n + 1)
    · obtain ⟨t, ht, e⟩ := q
      exact ⟨t, n + 1 - t, by omega, by omega, by rw [e]; congr 1; omega⟩
    · have ne : ∀ t, t ≤ n → f t ≠ f (n + 1) := fun t ht e => q ⟨t, ht, e⟩
      have hb := h (n + 1) (Nat.le_refl _)
      obtain ⟨s, d, hd, hs, e⟩ := ih (fun t => if f (n + 1) < f t then f t - 1 else f t) (fun t ht => by
        have a := h t (by omega)
        have b := ne t ht
        split <;> omega)
      refine ⟨s, d, hd, by omega, ?_⟩
      have a := ne s (by omega)
      have b := ne (s + d) (by omega)
      split at e <;> split at e <;> omega
/-- what divides all lengths up to 13 divides all -/
theorem pe_div {n : Nat} {E : Nat → Nat → Prop} {i g : Nat} (hn : n ≤ 5) (hi : i < n) (hg : ∀ k, 1 ≤ k → k ≤ 13 → pe_W n E i k i → g ∣ k) :
    ∀ L v, v < n → (∃ p, pe_W n E i p v) → (∃ q, pe_W n E v q i) → 1 ≤ L → pe_W n E v L v → g ∣ L := by
  intro L
  induction L using Nat.strongRecOn with
  | ind L ih =>
    intro v hv hp hq h1 w
    have small : ∀ c x, 1 ≤ c → c ≤ 5 → x < n → (∃ p, pe_W n E i p x) → (∃ q, pe_W n E x q i) → pe_W n E x c x → g ∣ c := by
      intro c x c1 c5 hx hp hq wc
      obtain ⟨p, wp⟩ := hp
      obtain ⟨q, wq⟩ := hq
      obtain ⟨p, hp, wp⟩ := pe_short hi wp
      obtain ⟨q, hq, wq⟩ := pe_short hx wq
      have a := pe_cat wp wq
      have b := pe_cat (pe_cat wp wc) wq
      rcases Nat.eq_zero_or_pos (p + q) with z | z
      · have p0 : p = 0 := by omega
        have q0 : q = 0 := by omega
        subst p0 q0
        rw [show x = i from wp] at wc
        exact hg c c1 (by omega) wc
      · have d1 := hg (p + q) z (by omega) a
        have d2 := hg (p + c + q) (by omega) (by omega) b
        have e : p + c + q = (p + q) + c := by omega
        rw [e] at d2
        exact (Nat.dvd_add_right d1).mp d2
    rcases Nat.lt_or_ge 5 L with big | le
    · obtain ⟨f, f0, fk, fl, fe⟩ := pe_fun hv w
      obtain ⟨s, d, hd, hs, e⟩ := pe_pigeon n f (fun t ht => fl t (by omega))
      have w1 := pe_seg fl fe 0 s (by omega)
      have w2 := pe_seg fl fe s d (by omega)
      have w3 := pe_seg fl fe (s + d) (L - (s + d)) (by omega)
      rw [Nat.zero_add, f0] at w1
      rw [← e] at w2 w3
      rw [show s + d + (L - (s + d)) = L by omega, fk] at w3
      have hx := fl s (by omega)
      obtain ⟨p, wp⟩ := hp
      obtain ⟨q, wq⟩ := hq
      have dd := small d (f s) (by omega) (by omega) hx ⟨_, pe_cat wp w1⟩ ⟨_, pe_cat w3 wq⟩ w2
      have wr := pe_cat w1 w3
      have dr := ih (s + (L - (s + d))) (by omega) v hv ⟨p, wp⟩ ⟨q, wq⟩ (by omega) wr
      have e2 : L = (s + (L - (s + d))) + d := by omega
      rw [e2]
      exact Nat.dvd_add dr dd
    · exact small L v h1 le hv hp hq w
/-- the running greatest common divisor over the lengths 1 .. m that lead back -/
noncomputable def pe_g (p : Nat → Prop) : Nat → Nat
  | 0 => 0
  | m + 1 => @ite Nat (p (m + 1)) (Classical.propDecidable _) (Nat.gcd (pe_g p m) (m + 1)) (pe_g p m)
theorem pe_g_dvd (p : Nat → Prop) : ∀ m k, 1 ≤ k → k ≤ m → p k → pe_g p m ∣ k := by
  intro m
  induction m with
  | zero => intro k h1 h2; omega
  | succ m ih =>
    intro k h1 h2 hp
    unfold pe_g
    by_cases q : p (m + 1)
    · rw [if_pos q]
      by_cases e : k = m + 1
      · rw [e]; exact Nat.gcd_dvd_right _ _
      · exact Nat.dvd_trans (Nat.gcd_dvd_left _ _) (ih k h1 (by omega) hp)
    · rw [if_neg q]
      have e : k ≠ m + 1 := fun e => q (e ▸ hp)
      exact ih k h1 (by omega) hp
theorem pe_dvd_g (p : Nat → Prop) (d : Nat) : ∀ m, (∀ k, 1 ≤ k → k ≤ m → p k → d ∣ k) → d ∣ pe_g p m := by
  intro m
  induction m with
  | zero => intro _; exact Nat.dvd_zero _
  | succ m ih =>
    intro h
    unfold pe_g
    by_cases q : p (m + 1)
    · rw [if_pos q]
      exact Nat.dvd_gcd (ih (fun k h1 h2 => h k h1 (by omega))) (h _ (by omega) (Nat.le_refl _) q)
    · rw [if_neg q]
      exact ih (fun k h1 h2 => h k h1 (by omega))
theorem pe_g_eq {n : Nat} {E : Nat → Nat → Prop} {i : Nat} (hn : n ≤ 5) (hi : i < n) (m : Nat) (hm : 13 ≤ m) : pe_g (fun k => pe_W n E i k i) 13 = pe_g (fun k => pe_W n E i k i) m := by
  apply Nat.dvd_antisymm
  · apply pe_dvd_g
    intro k h1 _ w
    exact pe_div hn hi (fun k h1 h2 w => pe_g_dvd _ 13 k h1 h2 w) k i hi ⟨0, rfl⟩ ⟨0, rfl⟩ h1 w
  · apply pe_dvd_g
    intro k h1 h2 w
    exact pe_g_dvd _ m k h1 (by omega) w
theorem pe_g_le (p : Nat → Prop) : ∀ m, pe_g p m ≤ m := by
  intro m
  induction m with
  | zero => exact Nat.le_refl _
  | succ m ih =>
    unfold pe_g
    by_cases q : p (m + 1)
    · rw [if_pos q]; exact Nat.gcd_le_right _ (by omega)
    · rw [if_neg q]; omega
end
section
/-! choices written by fives, and the sum over them -/
def tr_dig (c s : Nat) : Nat := c / 5 ^ s % 5
def tr_it (c r : Nat) : Nat → Nat → Nat
  | 0, x => x
  | t + 1, x => tr_it c r t (if x = r then r else tr_dig c x)
def tr_leads (n r c : Nat) : Bool := (List.range n).all (fun s => tr_it c r 5 s == r)
def tr_fine (n r c s : Nat) : Bool := if s = r ∨ n ≤ s then tr_dig c s == 0 else (decide (tr_dig c s < n) && !(tr_dig c s == s))
def tr_good (n r c : Nat) : Bool := tr_fine n r c 0 && tr_fine n r c 1 && tr_fine n r c 2 && tr_fine n r c 3 && tr_fine n r c 4 && tr_leads n r c
def tr_idx (n r c : Nat) : List Nat := ((List.range n).filter (fun s => !(s == r))).map (fun s => 5 * s + tr_dig c s)
def tr_prod (w : Nat → Nat) : List Nat → Nat
  | [] => 1
  | k :: l => w k * tr_prod w l
def tr_sumL (w : Nat → Nat) : List (List Nat) → Nat
  | [] => 0
  | l :: L => tr_prod w l + tr_sumL w L
def tr_sum (w : Nat → Nat) (n r : Nat) : Nat → Nat
  | 0 => 0
  | m + 1 => tr_sum w n r m + if tr_good n r m = true then tr_prod w (tr_idx n r m) else 0
def tr_list (n r : Nat) : Nat → List (List Nat)
  | 0 => []
  | m + 1 => if tr_good n r m = true then tr_idx n r m :: tr_list n r m else tr_list n r m
theorem tr_sum_list (w : Nat → Nat) (n r : Nat) : ∀ m, tr_sum w n r m = tr_sumL w (tr_list n r m) := by
  intro m
  induction m with
  | zero => rfl
  | succ m ih =>
    unfold tr_sum tr_list
    by_cases g : tr_good n r m = true
    · rw [if_pos g, if_pos g, ih]; exact Nat.add_comm _ _
    · rw [if_neg g, if_neg g, ih]; rfl
def tr_prodZ (x : Nat → Int) : List Nat → Int
  | [] => 1
  | k :: l => x k * tr_prodZ x l
def tr_sumZ (x : Nat → Int) : List (List Nat) → Int
  | [] => 0
  | l :: L => tr_prodZ x l + tr_sumZ x L
theorem tr_prod_z (w : Nat → Nat) : ∀ l, (tr_prod w l : Int) = tr_prodZ (fun k => (w k : Int)) l := by
  intro l
  induction l with
  | nil => rfl
  | cons k l ih => unfold tr_prod tr_prodZ; rw [Int.natCast_mul, ih]
theorem tr_sum_z (w : Nat → Nat) : ∀ L, (tr_sumL w L : Int) = tr_sumZ (fun k => (w k : Int)) L := by
  intro L
  induction L with
  | nil => rfl
  | cons l L ih => unfold tr_sumL tr_sumZ; rw [Int.natCast_add, ih, tr_prod_z]
theorem tr_Nd {w : Nat → Nat} {s : Nat} (h : ch_W w s ≠ 0) : ch_N w s s = (ch_W w s : Int) - (w (5 * s + s) : Int) := by
  unfold ch_N ch_tot ch_sw
  rw [if_pos rfl, if_neg h, if_neg h]
theorem tr_No {w : Nat → Nat} {s c : Nat} (h : ch_W w s ≠ 0) (q : s ≠ c) : ch_N w s c = -(w (5 * s + c) : Int) := by
  unfold ch_N ch_sw
  rw [if_neg q, if_neg h]; omega
theorem tr_l10 : tr_list 1 0 3125 = [[]] := by decide +kernel
theorem tr_p10 (x : Nat → Int) : 1 = tr_sumZ x (tr_list 1 0 3125) := by
  rw [tr_l10]
  simp only [tr_sumZ, tr_prodZ, ba_d4, ba_d3, ba_d2]; grobner
theorem tr_l20 : tr_list 2 0 3125 = [[5]] := by decide +kernel
theorem tr_p20 (x : Nat → Int) : (x 5) = tr_sumZ x (tr_list 2 0 3125) := by
  rw [tr_l20]
  simp only [tr_sumZ, tr_prodZ, ba_d4, ba_d3, ba_d2]; grobner
theorem tr_l21 : tr_list 2 1 3125 = [[1]] := by decide +kernel
theorem tr_p21 (x : Nat → Int) : (x 1) = tr_sumZ x (tr_list 2 1 3125) := by
  rw [tr_l21]
  simp only [tr_sumZ, tr_prodZ, ba_d4, ba_d3, ba_d2]; grobner
theorem tr_l30 : tr_list 3 0 3125 = [[5, 11], [7, 10], [5, 10]] := by decide +kernel
theorem tr_p30 (x : Nat → Int) : ba_d2 (x 5 + x 7) (-x 7) (-x 11) (x 10 + x 11) = tr_sumZ x (tr_list 3 0 3125) := by
  rw [tr_l30]
  simp only [tr_sumZ, tr_prodZ, ba_d4, ba_d3, ba_d2]; grobner
theorem tr_l31 : tr_list 3 1 3125 = [[2, 11], [1, 11], [1, 10]] := by decide +kernel
theorem tr_p31 (x : Nat → Int) : ba_d2 (x 1 + x 2) (-x 2) (-x 10) (x 10 + x 11) = tr_sumZ x (tr_list 3 1 3125) := by
  rw [tr_l31]
  simp only [tr_sumZ, tr_prodZ, ba_d4, ba_d3, ba_d2]; grobner
theorem tr_l32 : tr_list 3 2 3125 = [[2, 7], [1, 7], [2, 5]] := by decide +kernel
theorem tr_p32 (x : Nat → Int) : ba_d2 (x 1 + x 2) (-x 1) (-x 5) (x 5 + x 7) = tr_sumZ x (tr_list 3 2 3125) := by
  rw [tr_l32]
  simp only [tr_sumZ, tr_prodZ, ba_d4, ba_d3, ba_d2]; grobner
theorem tr_l40 : tr_list 4 0 3125 = [[5, 11, 17], [8, 10, 17], [7, 10, 17], [5, 10, 17], [5, 13, 16], [5, 11, 16], [7, 10, 16], [5, 10, 16], [8, 13, 15], [7, 13, 15], [5, 13, 15], [8, 11, 15], [5, 11, 15], [8, 10, 15], [7, 10, 15], [5, 10, 15]] := by decide +kernel
theorem tr_p40 (x : Nat → Int) : ba_d3 (x 5 + x 7 + x 8) (-x 7) (-x 8) (-x 11) (x 10 + x 11 + x 13) (-x 13) (-x 16) (-x 17) (x 15 + x 16 + x 17) = tr_sumZ x (tr_list 4 0 3125) := by
  rw [tr_l40]
  simp only [tr_sumZ, tr_prodZ, ba_d4, ba_d3, ba_d2]; grobner
theorem tr_l41 : tr_list 4 1 3125 = [[3, 11, 17], [2, 11, 17], [1, 11, 17], [1, 10, 17], [3, 13, 16], [2, 13, 16], [1, 13, 16], [3, 11, 16], [2, 11, 16], [1, 11, 16], [3, 10, 16], [1, 10, 16], [1, 13, 15], [2, 11, 15], [1, 11, 15], [1, 10, 15]] := by decide +kernel
theorem tr_p41 (x : Nat → Int) : ba_d3 (x 1 + x 2 + x 3) (-x 2) (-x 3) (-x 10) (x 10 + x 11 + x 13) (-x 13) (-x 15) (-x 17) (x 15 + x 16 + x 17) = tr_sumZ x (tr_list 4 1 3125) := by
  rw [tr_l41]
  simp only [tr_sumZ, tr_prodZ, ba_d4, ba_d3, ba_d2]; grobner
theorem tr_l42 : tr_list 4 2 3125 = [[3, 8, 17], [2, 8, 17], [1, 8, 17], [3, 7, 17], [2, 7, 17], [1, 7, 17], [3, 5, 17], [2, 5, 17], [3, 7, 16], [2, 7, 16], [1, 7, 16], [2, 5, 16], [2, 8, 15], [2, 7, 15], [1, 7, 15], [2, 5, 15]] := by decide +kernel
theorem tr_p42 (x : Nat → Int) : ba_d3 (x 1 + x 2 + x 3) (-x 1) (-x 3) (-x 5) (x 5 + x 7 + x 8) (-x 8) (-x 15) (-x 16) (x 15 + x 16 + x 17) = tr_sumZ x (tr_list 4 2 3125) := by
  rw [tr_l42]
  simp only [tr_sumZ, tr_prodZ, ba_d4, ba_d3, ba_d2]; grobner
theorem tr_l43 : tr_list 4 3 3125 = [[3, 8, 13], [2, 8, 13], [1, 8, 13], [3, 7, 13], [2, 7, 13], [1, 7, 13], [3, 5, 13], [2, 5, 13], [3, 8, 11], [2, 8, 11], [1, 8, 11], [3, 5, 11], [3, 8, 10], [1, 8, 10], [3, 7, 10], [3, 5, 10]] := by decide +kernel
theorem tr_p43 (x : Nat → Int) : ba_d3 (x 1 + x 2 + x 3) (-x 1) (-x 2) (-x 5) (x 5 + x 7 + x 8) (-x 7) (-x 10) (-x 11) (x 10 + x 11 + x 13) = tr_sumZ x (tr_list 4 3 3125) := by
  rw [tr_l43]
  simp only [tr_sumZ, tr_prodZ, ba_d4, ba_d3, ba_d2]; grobner
theorem tr_l50 : tr_list 5 0 3125 = [[5, 11, 17, 23], [9, 10, 17, 23], [8, 10, 17, 23], [7, 10, 17, 23], [5, 10, 17, 23], [5, 14, 16, 23], [5, 13, 16, 23], [5, 11, 16, 23], [7, 10, 16, 23], [5, 10, 16, 23], [9, 14, 15, 23], [8, 14, 15, 23], [7, 14, 15, 23], [5, 14, 15, 23], [9, 13, 15, 23], [8, 13, 15, 23], [7, 13, 15, 23], [5, 13, 15, 23], [9, 11, 15, 23], [8, 11, 15, 23], [5, 11, 15, 23], [9, 10, 15, 23], [8, 10, 15, 23], [7, 10, 15, 23], [5, 10, 15, 23], [5, 11, 19, 22], [9, 10, 19, 22], [8, 10, 19, 22], [7, 10, 19, 22], [5, 10, 19, 22], [5, 11, 17, 22], [9, 10, 17, 22], [8, 10, 17, 22], [7, 10, 17, 22], [5, 10, 17, 22], [5, 13, 16, 22], [5, 11, 16, 22], [9, 10, 16, 22], [7, 10, 16, 22], [5, 10, 16, 22], [9, 13, 15, 22], [8, 13, 15, 22], [7, 13, 15, 22], [5, 13, 15, 22], [8, 11, 15, 22], [5, 11, 15, 22], [9, 10, 15, 22], [8, 10, 15, 22], [7, 10, 15, 22], [5, 10, 15, 22], [5, 14, 19, 21], [5, 13, 19, 21], [5, 11, 19, 21], [7, 10, 19, 21], [5, 10, 19, 21], [5, 14, 17, 21], [5, 11, 17, 21], [8, 10, 17, 21], [7, 10, 17, 21], [5, 10, 17, 21], [5, 14, 16, 21], [5, 13, 16, 21], [5, 11, 16, 21], [7, 10, 16, 21], [5, 10, 16, 21], [8, 14, 15, 21], [5, 14, 15, 21], [8, 13, 15, 21], [7, 13, 15, 21], [5, 13, 15, 21], [8, 11, 15, 21], [5, 11, 15, 21], [8, 10, 15, 21], [7, 10, 15, 21], [5, 10, 15, 21], [9, 14, 19, 20], [8, 14, 19, 20], [7, 14, 19, 20], [5, 14, 19, 20], [9, 13, 19, 20], [8, 13, 19, 20], [7, 13, 19, 20], [5, 13, 19, 20], [9, 11, 19, 20], [8, 11, 19, 20], [5, 11, 19, 20], [9, 10, 19, 20], [8, 10, 19, 20], [7, 10, 19, 20], [5, 10, 19, 20], [9, 14, 17, 20], [8, 14, 17, 20], [7, 14, 17, 20], [5, 14, 17, 20], [9, 11, 17, 20], [5, 11, 17, 20], [9, 10, 17, 20], [8, 10, 17, 20], [7, 10, 17, 20], [5, 10, 17, 20], [9, 14, 16, 20], [7, 14, 16, 20], [5, 14, 16, 20], [9, 13, 16, 20], [5, 13, 16, 20], [9, 11, 16, 20], [5, 11, 16, 20], [9, 10, 16, 20], [7, 10, 16, 20], [5, 10, 16, 20], [9, 14, 15, 20], [8, 14, 15, 20], [7, 14, 15, 20], [5, 14, 15, 20], [9, 13, 15, 20], [8, 13, 15, 20], [7, 13, 15, 20], [5, 13, 15, 20], [9, 11, 15, 20], [8, 11, 15, 20], [5, 11, 15, 20], [9, 10, 15, 20], [8, 10, 15, 20], [7, 10, 15, 20], [5, 10, 15, 20]] := by decide +kernel
theorem tr_p50 (x : Nat → Int) : ba_d4 (x 5 + x 7 + x 8 + x 9) (-x 7) (-x 8) (-x 9) (-x 11) (x 10 + x 11 + x 13 + x 14) (-x 13) (-x 14) (-x 16) (-x 17) (x 15 + x 16 + x 17 + x 19) (-x 19) (-x 21) (-x 22) (-x 23) (x 20 + x 21 + x 22 + x 23) = tr_sumZ x (tr_list 5 0 3125) := by
  rw [tr_l50]
  simp only [tr_sumZ, tr_prodZ, ba_d4, ba_d3, ba_d2]; grobner
theorem tr_l51 : tr_list 5 1 3125 = [[4, 11, 17, 23], [3, 11, 17, 23], [2, 11, 17, 23], [1, 11, 17, 23], [1, 10, 17, 23], [4, 14, 16, 23], [3, 14, 16, 23], [2, 14, 16, 23], [1, 14, 16, 23], [4, 13, 16, 23], [3, 13, 16, 23], [2, 13, 16, 23], [1, 13, 16, 23], [4, 11, 16, 23], [3, 11, 16, 23], [2, 11, 16, 23], [1, 11, 16, 23], [4, 10, 16, 23], [3, 10, 16, 23], [1, 10, 16, 23], [1, 14, 15, 23], [1, 13, 15, 23], [2, 11, 15, 23], [1, 11, 15, 23], [1, 10, 15, 23], [4, 11, 19, 22], [3, 11, 19, 22], [2, 11, 19, 22], [1, 11, 19, 22], [1, 10, 19, 22], [4, 11, 17, 22], [3, 11, 17, 22], [2, 11, 17, 22], [1, 11, 17, 22], [1, 10, 17, 22], [4, 13, 16, 22], [3, 13, 16, 22], [2, 13, 16, 22], [1, 13, 16, 22], [4, 11, 16, 22], [3, 11, 16, 22], [2, 11, 16, 22], [1, 11, 16, 22], [3, 10, 16, 22], [1, 10, 16, 22], [1, 13, 15, 22], [4, 11, 15, 22], [2, 11, 15, 22], [1, 11, 15, 22], [1, 10, 15, 22], [4, 14, 19, 21], [3, 14, 19, 21], [2, 14, 19, 21], [1, 14, 19, 21], [4, 13, 19, 21], [3, 13, 19, 21], [2, 13, 19, 21], [1, 13, 19, 21], [4, 11, 19, 21], [3, 11, 19, 21], [2, 11, 19, 21], [1, 11, 19, 21], [4, 10, 19, 21], [3, 10, 19, 21], [1, 10, 19, 21], [4, 14, 17, 21], [3, 14, 17, 21], [2, 14, 17, 21], [1, 14, 17, 21], [4, 11, 17, 21], [3, 11, 17, 21], [2, 11, 17, 21], [1, 11, 17, 21], [4, 10, 17, 21], [1, 10, 17, 21], [4, 14, 16, 21], [3, 14, 16, 21], [2, 14, 16, 21], [1, 14, 16, 21], [4, 13, 16, 21], [3, 13, 16, 21], [2, 13, 16, 21], [1, 13, 16, 21], [4, 11, 16, 21], [3, 11, 16, 21], [2, 11, 16, 21], [1, 11, 16, 21], [4, 10, 16, 21], [3, 10, 16, 21], [1, 10, 16, 21], [4, 14, 15, 21], [2, 14, 15, 21], [1, 14, 15, 21], [4, 13, 15, 21], [1, 13, 15, 21], [4, 11, 15, 21], [2, 11, 15, 21], [1, 11, 15, 21], [4, 10, 15, 21], [1, 10, 15, 21], [1, 14, 19, 20], [1, 13, 19, 20], [2, 11, 19, 20], [1, 11, 19, 20], [1, 10, 19, 20], [1, 14, 17, 20], [3, 11, 17, 20], [2, 11, 17, 20], [1, 11, 17, 20], [1, 10, 17, 20], [3, 14, 16, 20], [1, 14, 16, 20], [3, 13, 16, 20], [2, 13, 16, 20], [1, 13, 16, 20], [3, 11, 16, 20], [2, 11, 16, 20], [1, 11, 16, 20], [3, 10, 16, 20], [1, 10, 16, 20], [1, 14, 15, 20], [1, 13, 15, 20], [2, 11, 15, 20], [1, 11, 15, 20], [1, 10, 15, 20]] := by decide +kernel
theorem tr_p51 (x : Nat → Int) : ba_d4 (x 1 + x 2 + x 3 + x 4) (-x 2) (-x 3) (-x 4) (-x 10) (x 10 + x 11 + x 13 + x 14) (-x 13) (-x 14) (-x 15) (-x 17) (x 15 + x 16 + x 17 + x 19) (-x 19) (-x 20) (-x 22) (-x 23) (x 20 + x 21 + x 22 + x 23) = tr_sumZ x (tr_list 5 1 3125) := by
  rw [tr_l51]
  simp only [tr_sumZ, tr_prodZ, ba_d4, ba_d3, ba_d2]; grobner
theorem tr_l52 : tr_list 5 2 3125 = [[4, 9, 17, 23], [3, 9, 17, 23], [2, 9, 17, 23], [1, 9, 17, 23], [4, 8, 17, 23], [3, 8, 17, 23], [2, 8, 17, 23], [1, 8, 17, 23], [4, 7, 17, 23], [3, 7, 17, 23], [2, 7, 17, 23], [1, 7, 17, 23], [4, 5, 17, 23], [3, 5, 17, 23], [2, 5, 17, 23], [4, 7, 16, 23], [3, 7, 16, 23], [2, 7, 16, 23], [1, 7, 16, 23], [2, 5, 16, 23], [2, 9, 15, 23], [2, 8, 15, 23], [2, 7, 15, 23], [1, 7, 15, 23], [2, 5, 15, 23], [4, 9, 19, 22], [3, 9, 19, 22], [2, 9, 19, 22], [1, 9, 19, 22], [4, 8, 19, 22], [3, 8, 19, 22], [2, 8, 19, 22], [1, 8, 19, 22], [4, 7, 19, 22], [3, 7, 19, 22], [2, 7, 19, 22], [1, 7, 19, 22], [4, 5, 19, 22], [3, 5, 19, 22], [2, 5, 19, 22], [4, 9, 17, 22], [3, 9, 17, 22], [2, 9, 17, 22], [1, 9, 17, 22], [4, 8, 17, 22], [3, 8, 17, 22], [2, 8, 17, 22], [1, 8, 17, 22], [4, 7, 17, 22], [3, 7, 17, 22], [2, 7, 17, 22], [1, 7, 17, 22], [4, 5, 17, 22], [3, 5, 17, 22], [2, 5, 17, 22], [4, 9, 16, 22], [3, 9, 16, 22], [2, 9, 16, 22], [1, 9, 16, 22], [4, 7, 16, 22], [3, 7, 16, 22], [2, 7, 16, 22], [1, 7, 16, 22], [4, 5, 16, 22], [2, 5, 16, 22], [4, 9, 15, 22], [2, 9, 15, 22], [1, 9, 15, 22], [4, 8, 15, 22], [2, 8, 15, 22], [4, 7, 15, 22], [2, 7, 15, 22], [1, 7, 15, 22], [4, 5, 15, 22], [2, 5, 15, 22], [4, 7, 19, 21], [3, 7, 19, 21], [2, 7, 19, 21], [1, 7, 19, 21], [2, 5, 19, 21], [4, 8, 17, 21], [3, 8, 17, 21], [2, 8, 17, 21], [1, 8, 17, 21], [4, 7, 17, 21], [3, 7, 17, 21], [2, 7, 17, 21], [1, 7, 17, 21], [3, 5, 17, 21], [2, 5, 17, 21], [4, 7, 16, 21], [3, 7, 16, 21], [2, 7, 16, 21], [1, 7, 16, 21], [2, 5, 16, 21], [2, 8, 15, 21], [4, 7, 15, 21], [2, 7, 15, 21], [1, 7, 15, 21], [2, 5, 15, 21], [2, 9, 19, 20], [2, 8, 19, 20], [2, 7, 19, 20], [1, 7, 19, 20], [2, 5, 19, 20], [3, 9, 17, 20], [2, 9, 17, 20], [3, 8, 17, 20], [2, 8, 17, 20], [1, 8, 17, 20], [3, 7, 17, 20], [2, 7, 17, 20], [1, 7, 17, 20], [3, 5, 17, 20], [2, 5, 17, 20], [2, 9, 16, 20], [3, 7, 16, 20], [2, 7, 16, 20], [1, 7, 16, 20], [2, 5, 16, 20], [2, 9, 15, 20], [2, 8, 15, 20], [2, 7, 15, 20], [1, 7, 15, 20], [2, 5, 15, 20]] := by decide +kernel
theorem tr_p52 (x : Nat → Int) : ba_d4 (x 1 + x 2 + x 3 + x 4) (-x 1) (-x 3) (-x 4) (-x 5) (x 5 + x 7 + x 8 + x 9) (-x 8) (-x 9) (-x 15) (-x 16) (x 15 + x 16 + x 17 + x 19) (-x 19) (-x 20) (-x 21) (-x 23) (x 20 + x 21 + x 22 + x 23) = tr_sumZ x (tr_list 5 2 3125) := by
  rw [tr_l52]
  simp only [tr_sumZ, tr_prodZ, ba_d4, ba_d3, ba_d2]; grobner
theorem tr_l53 : tr_list 5 3 3125 = [[4, 9, 14, 23], [3, 9, 14, 23], [2, 9, 14, 23], [1, 9, 14, 23], [4, 8, 14, 23], [3, 8, 14, 23], [2, 8, 14, 23], [1, 8, 14, 23], [4, 7, 14, 23], [3, 7, 14, 23], [2, 7, 14, 23], [1, 7, 14, 23], [4, 5, 14, 23], [3, 5, 14, 23], [2, 5, 14, 23], [4, 9, 13, 23], [3, 9, 13, 23], [2, 9, 13, 23], [1, 9, 13, 23], [4, 8, 13, 23], [3, 8, 13, 23], [2, 8, 13, 23], [1, 8, 13, 23], [4, 7, 13, 23], [3, 7, 13, 23], [2, 7, 13, 23], [1, 7, 13, 23], [4, 5, 13, 23], [3, 5, 13, 23], [2, 5, 13, 23], [4, 9, 11, 23], [3, 9, 11, 23], [2, 9, 11, 23], [1, 9, 11, 23], [4, 8, 11, 23], [3, 8, 11, 23], [2, 8, 11, 23], [1, 8, 11, 23], [4, 5, 11, 23], [3, 5, 11, 23], [4, 9, 10, 23], [3, 9, 10, 23], [1, 9, 10, 23], [4, 8, 10, 23], [3, 8, 10, 23], [1, 8, 10, 23], [4, 7, 10, 23], [3, 7, 10, 23], [4, 5, 10, 23], [3, 5, 10, 23], [4, 9, 13, 22], [3, 9, 13, 22], [2, 9, 13, 22], [1, 9, 13, 22], [4, 8, 13, 22], [3, 8, 13, 22], [2, 8, 13, 22], [1, 8, 13, 22], [4, 7, 13, 22], [3, 7, 13, 22], [2, 7, 13, 22], [1, 7, 13, 22], [4, 5, 13, 22], [3, 5, 13, 22], [2, 5, 13, 22], [4, 8, 11, 22], [3, 8, 11, 22], [2, 8, 11, 22], [1, 8, 11, 22], [3, 5, 11, 22], [3, 9, 10, 22], [3, 8, 10, 22], [1, 8, 10, 22], [3, 7, 10, 22], [3, 5, 10, 22], [4, 8, 14, 21], [3, 8, 14, 21], [2, 8, 14, 21], [1, 8, 14, 21], [3, 5, 14, 21], [4, 8, 13, 21], [3, 8, 13, 21], [2, 8, 13, 21], [1, 8, 13, 21], [4, 7, 13, 21], [3, 7, 13, 21], [2, 7, 13, 21], [1, 7, 13, 21], [3, 5, 13, 21], [2, 5, 13, 21], [4, 8, 11, 21], [3, 8, 11, 21], [2, 8, 11, 21], [1, 8, 11, 21], [3, 5, 11, 21], [4, 8, 10, 21], [3, 8, 10, 21], [1, 8, 10, 21], [3, 7, 10, 21], [3, 5, 10, 21], [3, 9, 14, 20], [3, 8, 14, 20], [1, 8, 14, 20], [3, 7, 14, 20], [3, 5, 14, 20], [3, 9, 13, 20], [2, 9, 13, 20], [3, 8, 13, 20], [2, 8, 13, 20], [1, 8, 13, 20], [3, 7, 13, 20], [2, 7, 13, 20], [1, 7, 13, 20], [3, 5, 13, 20], [2, 5, 13, 20], [3, 9, 11, 20], [3, 8, 11, 20], [2, 8, 11, 20], [1, 8, 11, 20], [3, 5, 11, 20], [3, 9, 10, 20], [3, 8, 10, 20], [1, 8, 10, 20], [3, 7, 10, 20], [3, 5, 10, 20]] := by decide +kernel
theorem tr_p53 (x : Nat → Int) : ba_d4 (x 1 + x 2 + x 3 + x 4) (-x 1) (-x 2) (-x 4) (-x 5) (x 5 + x 7 + x 8 + x 9) (-x 7) (-x 9) (-x 10) (-x 11) (x 10 + x 11 + x 13 + x 14) (-x 14) (-x 20) (-x 21) (-x 22) (x 20 + x 21 + x 22 + x 23) = tr_sumZ x (tr_list 5 3 3125) := by
  rw [tr_l53]
  simp only [tr_sumZ, tr_prodZ, ba_d4, ba_d3, ba_d2]; grobner
theorem tr_l54 : tr_list 5 4 3125 = [[4, 9, 14, 19], [3, 9, 14, 19], [2, 9, 14, 19], [1, 9, 14, 19], [4, 8, 14, 19], [3, 8, 14, 19], [2, 8, 14, 19], [1, 8, 14, 19], [4, 7, 14, 19], [3, 7, 14, 19], [2, 7, 14, 19], [1, 7, 14, 19], [4, 5, 14, 19], [3, 5, 14, 19], [2, 5, 14, 19], [4, 9, 13, 19], [3, 9, 13, 19], [2, 9, 13, 19], [1, 9, 13, 19], [4, 8, 13, 19], [3, 8, 13, 19], [2, 8, 13, 19], [1, 8, 13, 19], [4, 7, 13, 19], [3, 7, 13, 19], [2, 7, 13, 19], [1, 7, 13, 19], [4, 5, 13, 19], [3, 5, 13, 19], [2, 5, 13, 19], [4, 9, 11, 19], [3, 9, 11, 19], [2, 9, 11, 19], [1, 9, 11, 19], [4, 8, 11, 19], [3, 8, 11, 19], [2, 8, 11, 19], [1, 8, 11, 19], [4, 5, 11, 19], [3, 5, 11, 19], [4, 9, 10, 19], [3, 9, 10, 19], [1, 9, 10, 19], [4, 8, 10, 19], [3, 8, 10, 19], [1, 8, 10, 19], [4, 7, 10, 19], [3, 7, 10, 19], [4, 5, 10, 19], [3, 5, 10, 19], [4, 9, 14, 17], [3, 9, 14, 17], [2, 9, 14, 17], [1, 9, 14, 17], [4, 8, 14, 17], [3, 8, 14, 17], [2, 8, 14, 17], [1, 8, 14, 17], [4, 7, 14, 17], [3, 7, 14, 17], [2, 7, 14, 17], [1, 7, 14, 17], [4, 5, 14, 17], [3, 5, 14, 17], [2, 5, 14, 17], [4, 9, 11, 17], [3, 9, 11, 17], [2, 9, 11, 17], [1, 9, 11, 17], [4, 5, 11, 17], [4, 9, 10, 17], [1, 9, 10, 17], [4, 8, 10, 17], [4, 7, 10, 17], [4, 5, 10, 17], [4, 9, 14, 16], [3, 9, 14, 16], [2, 9, 14, 16], [1, 9, 14, 16], [4, 7, 14, 16], [3, 7, 14, 16], [2, 7, 14, 16], [1, 7, 14, 16], [4, 5, 14, 16], [2, 5, 14, 16], [4, 9, 13, 16], [3, 9, 13, 16], [2, 9, 13, 16], [1, 9, 13, 16], [4, 5, 13, 16], [4, 9, 11, 16], [3, 9, 11, 16], [2, 9, 11, 16], [1, 9, 11, 16], [4, 5, 11, 16], [4, 9, 10, 16], [3, 9, 10, 16], [1, 9, 10, 16], [4, 7, 10, 16], [4, 5, 10, 16], [4, 9, 14, 15], [2, 9, 14, 15], [1, 9, 14, 15], [4, 8, 14, 15], [2, 8, 14, 15], [4, 7, 14, 15], [2, 7, 14, 15], [1, 7, 14, 15], [4, 5, 14, 15], [2, 5, 14, 15], [4, 9, 13, 15], [1, 9, 13, 15], [4, 8, 13, 15], [4, 7, 13, 15], [4, 5, 13, 15], [4, 9, 11, 15], [2, 9, 11, 15], [1, 9, 11, 15], [4, 8, 11, 15], [4, 5, 11, 15], [4, 9, 10, 15], [1, 9, 10, 15], [4, 8, 10, 15], [4, 7, 10, 15], [4, 5, 10, 15]] := by decide +kernel
theorem tr_p54 (x : Nat → Int) : ba_d4 (x 1 + x 2 + x 3 + x 4) (-x 1) (-x 2) (-x 3) (-x 5) (x 5 + x 7 + x 8 + x 9) (-x 7) (-x 8) (-x 10) (-x 11) (x 10 + x 11 + x 13 + x 14) (-x 13) (-x 15) (-x 16) (-x 17) (x 15 + x 16 + x 17 + x 19) = tr_sumZ x (tr_list 5 4 3125) := by
  rw [tr_l54]
  simp only [tr_sumZ, tr_prodZ, ba_d4, ba_d3, ba_d2]; grobner
theorem tr_d10 {w : Nat → Nat} (ok : ch_ok 1 w) (hW : ∀ s, s < 1 → s ≠ 0 → ch_W w s ≠ 0) : (tr_sum w 1 0 3125 : Int) = ba_D (ch_N w) [] := by
  rw [tr_sum_list, tr_sum_z, ← tr_p10]
  rfl
theorem tr_d20 {w : Nat → Nat} (ok : ch_ok 2 w) (hW : ∀ s, s < 2 → s ≠ 0 → ch_W w s ≠ 0) : (tr_sum w 2 0 3125 : Int) = ba_D (ch_N w) [1] := by
  rw [tr_sum_list, tr_sum_z, ← tr_p20]
  have h1 := hW 1 (by omega) (by omega)
  have z12 : w 7 = 0 := ok.2.2.2 1 2 (by omega) (by omega) (by omega)
  have z13 : w 8 = 0 := ok.2.2.2 1 3 (by omega) (by omega) (by omega)
  have z14 : w 9 = 0 := ok.2.2.2 1 4 (by omega) (by omega) (by omega)
  have N11 : ch_N w 1 1 = (w 5 : Int) := by
    rw [tr_Nd h1]; simp only [ch_W, Nat.reduceMul, Nat.reduceAdd]; omega
  show _ = ch_N w 1 1
  rw [N11]
theorem tr_d21 {w : Nat → Nat} (ok : ch_ok 2 w) (hW : ∀ s, s < 2 → s ≠ 1 → ch_W w s ≠ 0) : (tr_sum w 2 1 3125 : Int) = ba_D (ch_N w) [0] := by
  rw [tr_sum_list, tr_sum_z, ← tr_p21]
  have h0 := hW 0 (by omega) (by omega)
  have z02 : w 2 = 0 := ok.2.2.2 0 2 (by omega) (by omega) (by omega)
  have z03 : w 3 = 0 := ok.2.2.2 0 3 (by omega) (by omega) (by omega)
  have z04 : w 4 = 0 := ok.2.2.2 0 4 (by omega) (by omega) (by omega)
  have N00 : ch_N w 0 0 = (w 1 : Int) := by
    rw [tr_Nd h0]; simp only [ch_W, Nat.reduceMul, Nat.reduceAdd]; omega
  show _ = ch_N w 0 0
  rw [N00]
theorem tr_d30 {w : Nat → Nat} (ok : ch_ok 3 w) (hW : ∀ s, s < 3 → s ≠ 0 → ch_W w s ≠ 0) : (tr_sum w 3 0 3125 : Int) = ba_D (ch_N w) [1, 2] := by
  rw [tr_sum_list, tr_sum_z, ← tr_p30]
  have h1 := hW 1 (by omega) (by omega)
  have z13 : w 8 = 0 := ok.2.2.2 1 3 (by omega) (by omega) (by omega)
  have z14 : w 9 = 0 := ok.2.2.2 1 4 (by omega) (by omega) (by omega)
  have N11 : ch_N w 1 1 = (w 5 : Int) + (w 7 : Int) := by
    rw [tr_Nd h1]; simp only [ch_W, Nat.reduceMul, Nat.reduceAdd]; omega
  have N12 : ch_N w 1 2 = -(w 7 : Int) := tr_No h1 (by decide)
  have h2 := hW 2 (by omega) (by omega)
  have z23 : w 13 = 0 := ok.2.2.2 2 3 (by omega) (by omega) (by omega)
  have z24 : w 14 = 0 := ok.2.2.2 2 4 (by omega) (by omega) (by omega)
  have N21 : ch_N w 2 1 = -(w 11 : Int) := tr_No h2 (by decide)
  have N22 : ch_N w 2 2 = (w 10 : Int) + (w 11 : Int) := by
    rw [tr_Nd h2]; simp only [ch_W, Nat.reduceMul, Nat.reduceAdd]; omega
  show _ = ba_d2 (ch_N w 1 1) (ch_N w 1 2) (ch_N w 2 1) (ch_N w 2 2)
  rw [N11, N12, N21, N22]
theorem tr_d31 {w : Nat → Nat} (ok : ch_ok 3 w) (hW : ∀ s, s < 3 → s ≠ 1 → ch_W w s ≠ 0) : (tr_sum w 3 1 3125 : Int) = ba_D (ch_N w) [0, 2] := by
  rw [tr_sum_list, tr_sum_z, ← tr_p31]
  have h0 := hW 0 (by omega) (by omega)
  have z03 : w 3 = 0 := ok.2.2.2 0 3 (by omega) (by omega) (by omega)
  have z04 : w 4 = 0 := ok.2.2.2 0 4 (by omega) (by omega) (by omega)
  have N00 : ch_N w 0 0 = (w 1 : Int) + (w 2 : Int) := by
    rw [tr_Nd h0]; simp only [ch_W, Nat.reduceMul, Nat.reduceAdd]; omega
  have N02 : ch_N w 0 2 = -(w 2 : Int) := tr_No h0 (by decide)
  have h2 := hW 2 (by omega) (by omega)
  have z23 : w 13 = 0 := ok.2.2.2 2 3 (by omega) (by omega) (by omega)
  have z24 : w 14 = 0 := ok.2.2.2 2 4 (by omega) (by omega) (by omega)
  have N20 : ch_N w 2 0 = -(w 10 : Int) := tr_No h2 (by decide)
  have N22 : ch_N w 2 2 = (w 10 : Int) + (w 11 : Int) := by
    rw [tr_Nd h2]; simp only [ch_W, Nat.reduceMul, Nat.reduceAdd]; omega
  show _ = ba_d2 (ch_N w 0 0) (ch_N w 0 2) (ch_N w 2 0) (ch_N w 2 2)
  rw [N00, N02, N20, N22]
theorem tr_d32 {w : Nat → Nat} (ok : ch_ok 3 w) (hW : ∀ s, s < 3 → s ≠ 2 → ch_W w s ≠ 0) : (tr_sum w 3 2 3125 : Int) = ba_D (ch_N w) [0, 1] := by
  rw [tr_sum_list, tr_sum_z, ← tr_p32]
  have h0 := hW 0 (by omega) (by omega)
  have z03 : w 3 = 0 := ok.2.2.2 0 3 (by omega) (by omega) (by omega)
  have z04 : w 4 = 0 := ok.2.2.2 0 4 (by omega) (by omega) (by omega)
  have N00 : ch_N w 0 0 = (w 1 : Int) + (w 2 : Int) := by
    rw [tr_Nd h0]; simp only [ch_W, Nat.reduceMul, Nat.reduceAdd]; omega
  have N01 : ch_N w 0 1 = -(w 1 : Int) := tr_No h0 (by decide)
  have h1 := hW 1 (by omega) (by omega)
  have z13 : w 8 = 0 := ok.2.2.2 1 3 (by omega) (by omega) (by omega)
  have z14 : w 9 = 0 := ok.2.2.2 1 4 (by omega) (by omega) (by omega)
  have N10 : ch_N w 1 0 = -(w 5 : Int) := tr_No h1 (by decide)
  have N11 : ch_N w 1 1 = (w 5 : Int) + (w 7 : Int) := by
    rw [tr_Nd h1]; simp only [ch_W, Nat.reduceMul, Nat.reduceAdd]; omega
  show _ = ba_d2 (ch_N w 0 0) (ch_N w 0 1) (ch_N w 1 0) (ch_N w 1 1)
  rw [N00, N01, N10, N11]
theorem tr_d40 {w : Nat → Nat} (ok : ch_ok 4 w) (hW : ∀ s, s < 4 → s ≠ 0 → ch_W w s ≠ 0) : (tr_sum w 4 0 3125 : Int) = ba_D (ch_N w) [1, 2, 3] := by
  rw [tr_sum_list, tr_sum_z, ← tr_p40]
  have h1 := hW 1 (by omega) (by omega)
  have z14 : w 9 = 0 := ok.2.2.2 1 4 (by omega) (by omega) (by omega)
  have N11 : ch_N w 1 1 = (w 5 : Int) + (w 7 : Int) + (w 8 : Int) := by
    rw [tr_Nd h1]; simp only [ch_W, Nat.reduceMul, Nat.reduceAdd]; omega
  have N12 : ch_N w 1 2 = -(w 7 : Int) := tr_No h1 (by decide)
  have N13 : ch_N w 1 3 = -(w 8 : Int) := tr_No h1 (by decide)
  have h2 := hW 2 (by omega) (by omega)
  have z24 : w 14 = 0 := ok.2.2.2 2 4 (by omega) (by omega) (by omega)
  have N21 : ch_N w 2 1 = -(w 11 : Int) := tr_No h2 (by decide)
  have N22 : ch_N w 2 2 = (w 10 : Int) + (w 11 : Int) + (w 13 : Int) := by
    rw [tr_Nd h2]; simp only [ch_W, Nat.reduceMul, Nat.reduceAdd]; omega
  have N23 : ch_N w 2 3 = -(w 13 : Int) := tr_No h2 (by decide)
  have h3 := hW 3 (by omega) (by omega)
  have z34 : w 19 = 0 := ok.2.2.2 3 4 (by omega) (by omega) (by omega)
  have N31 : ch_N w 3 1 = -(w 16 : Int) := tr_No h3 (by decide)
  have N32 : ch_N w 3 2 = -(w 17 : Int) := tr_No h3 (by decide)
  have N33 : ch_N w 3 3 = (w 15 : Int) + (w 16 : Int) + (w 17 : Int) := by
    rw [tr_Nd h3]; simp only [ch_W, Nat.reduceMul, Nat.reduceAdd]; omega
  show _ = ba_d3 (ch_N w 1 1) (ch_N w 1 2) (ch_N w 1 3) (ch_N w 2 1) (ch_N w 2 2) (ch_N w 2 3) (ch_N w 3 1) (ch_N w 3 2) (ch_N w 3 3)
  rw [N11, N12, N13, N21, N22, N23, N31, N32, N33]
theorem tr_d41 {w : Nat → Nat} (ok : ch_ok 4 w) (hW : ∀ s, s < 4 → s ≠ 1 → ch_W w s ≠ 0) : (tr_sum w 4 1 3125 : Int) = ba_D (ch_N w) [0, 2, 3] := by
  rw [tr_sum_list, tr_sum_z, ← tr_p41]
  have h0 := hW 0 (by omega) (by omega)
  have z04 : w 4 = 0 := ok.2.2.2 0 4 (by omega) (by omega) (by omega)
  have N00 : ch_N w 0 0 = (w 1 : Int) + (w 2 : Int) + (w 3 : Int) := by
    rw [tr_Nd h0]; simp only [ch_W, Nat.reduceMul, Nat.reduceAdd]; omega
  have N02 : ch_N w 0 2 = -(w 2 : Int) := tr_No h0 (by decide)
  have N03 : ch_N w 0 3 = -(w 3 : Int) := tr_No h0 (by decide)
  have h2 := hW 2 (by omega) (by omega)
  have z24 : w 14 = 0 := ok.2.2.2 2 4 (by omega) (by omega) (by omega)
  have N20 : ch_N w 2 0 = -(w 10 : Int) := tr_No h2 (by decide)
  have N22 : ch_N w 2 2 = (w 10 : Int) + (w 11 : Int) + (w 13 : Int) := by
    rw [tr_Nd h2]; simp only [ch_W, Nat.reduceMul, Nat.reduceAdd]; omega
  have N23 : ch_N w 2 3 = -(w 13 : Int) := tr_No h2 (by decide)
  have h3 := hW 3 (by omega) (by omega)
  have z34 : w 19 = 0 := ok.2.2.2 3 4 (by omega) (by omega) (by omega)
  have N30 : ch_N w 3 0 = -(w 15 : Int) := tr_No h3 (by decide)
  have N32 : ch_N w 3 2 = -(w 17 : Int) := tr_No h3 (by decide)
  have N33 : ch_N w 3 3 = (w 15 : Int) + (w 16 : Int) + (w 17 : Int) := by
    rw [tr_Nd h3]; simp only [ch_W, Nat.reduceMul, Nat.reduceAdd]; omega
  show _ = ba_d3 (ch_N w 0 0) (ch_N w 0 2) (ch_N w 0 3) (ch_N w 2 0) (ch_N w 2 2) (ch_N w 2 3) (ch_N w 3 0) (ch_N w 3 2) (ch_N w 3 3)
  rw [N00, N02, N03, N20, N22, N23, N30, N32, N33]
theorem tr_d42 {w : Nat → Nat} (ok : ch_ok 4 w) (hW : ∀ s, s < 4 → s ≠ 2 → ch_W w s ≠ 0) : (tr_sum w 4 2 3125 : Int) = ba_D (ch_N w) [0, 1, 3] := by
  rw [tr_sum_list, tr_sum_z, ← tr_p42]
  have h0 := hW 0 (by omega) (by omega)
  have z04 : w 4 = 0 := ok.2.2.2 0 4 (by omega) (by omega) (by omega)
  have N00 : ch_N w 0 0 = (w 1 : Int) + (w 2 : Int) + (w 3 : Int) := by
    rw [tr_Nd h0]; simp only [ch_W, Nat.reduceMul, Nat.reduceAdd]; omega
  have N01 : ch_N w 0 1 = -(w 1 : Int) := tr_No h0 (by decide)
  have N03 : ch_N w 0 3 = -(w 3 : Int) := tr_No h0 (by decide)
  have h1 := hW 1 (by omega) (by omega)
  have z14 : w 9 = 0 := ok.2.2.2 1 4 (by omega) (by omega) (by omega)
  have N10 : ch_N w 1 0 = -(w 5 : Int) := tr_No h1 (by decide)
  have N11 : ch_N w 1 1 = (w 5 : Int) + (w 7 : Int) + (w 8 : Int) := by
    rw [tr_Nd h1]; simp only [ch_W, Nat.reduceMul, Nat.reduceAdd]; omega
  have N13 : ch_N w 1 3 = -(w 8 : Int) := tr_No h1 (by decide)
  have h3 := hW 3 (by omega) (by omega)
  have z34 : w 19 = 0 := ok.2.2.2 3 4 (by omega) (by omega) (by omega)
  have N30 : ch_N w 3 0 = -(w 15 : Int) := tr_No h3 (by decide)
  have N31 : ch_N w 3 1 = -(w 16 : Int) := tr_No h3 (by decide)
  have N33 : ch_N w 3 3 = (w 15 : Int) + (w 16 : Int) + (w 17 : Int) := by
    rw [tr_Nd h3]; simp only [ch_W, Nat.reduceMul, Nat.reduceAdd]; omega
  show _ = ba_d3 (ch_N w 0 0) (ch_N w 0 1) (ch_N w 0 3) (ch_N w 1 0) (ch_N w 1 1) (ch_N w 1 3) (ch_N w 3 0) (ch_N w 3 1) (ch_N w 3 3)
  rw [N00, N01, N03, N10, N11, N13, N30, N31, N33]
theorem tr_d43 {w : Nat → Nat} (ok : ch_ok 4 w) (hW : ∀ s, s < 4 → s ≠ 3 → ch_W w s ≠ 0) : (tr_sum w 4 3 3125 : Int) = ba_D (ch_N w) [0, 1, 2] := by
  rw [tr_sum_list, tr_sum_z, ← tr_p43]
  have h0 := hW 0 (by omega) (by omega)
  have z04 : w 4 = 0 := ok.2.2.2 0 4 (by omega) (by omega) (by omega)
  have N00 : ch_N w 0 0 = (w 1 : Int) + (w 2 : Int) + (w 3 : Int) := by
    rw [tr_Nd h0]; simp only [ch_W, Nat.reduceMul, Nat.reduceAdd]; omega
  have N01 : ch_N w 0 1 = -(w 1 : Int) := tr_No h0 (by decide)
  have N02 : ch_N w 0 2 = -(w 2 : Int) := tr_No h0 (by decide)
  have h1 := hW 1 (by omega) (by omega)
  have z14 : w 9 = 0 := ok.2.2.2 1 4 (by omega) (by omega) (by omega)
  have N10 : ch_N w 1 0 = -(w 5 : Int) := tr_No h1 (by decide)
  have N11 : ch_N w 1 1 = (w 5 : Int) + (w 7 : Int) + (w 8 : Int) := by
    rw [tr_Nd h1]; simp only [ch_W, Nat.reduceMul, Nat.reduceAdd]; omega
  have N12 : ch_N w 1 2 = -(w 7 : Int) := tr_No h1 (by decide)
  have h2 := hW 2 (by omega) (by omega)
  have z24 : w 14 = 0 := ok.2.2.2 2 4 (by omega) (by omega) (by omega)
  have N20 : ch_N w 2 0 = -(w 10 : Int) := tr_No h2 (by decide)
  have N21 : ch_N w 2 1 = -(w 11 : Int) := tr_No h2 (by decide)
  have N22 : ch_N w 2 2 = (w 10 : Int) + (w 11 : Int) + (w 13 : Int) := by
    rw [tr_Nd h2]; simp only [ch_W, Nat.reduceMul, Nat.reduceAdd]; omega
  show _ = ba_d3 (ch_N w 0 0) (ch_N w 0 1) (ch_N w 0 2) (ch_N w 1 0) (ch_N w 1 1) (ch_N w 1 2) (ch_N w 2 0) (ch_N w 2 1) (ch_N w 2 2)
  rw [N00, N01, N02, N10, N11, N12, N20, N21, N22]
theorem tr_d50 {w : Nat → Nat} (ok : ch_ok 5 w) (hW : ∀ s, s < 5 → s ≠ 0 → ch_W w s ≠ 0) : (tr_sum w 5 0 3125 : Int) = ba_D (ch_N w) [1, 2, 3, 4] := by
  rw [tr_sum_list, tr_sum_z, ← tr_p50]
  have h1 := hW 1 (by omega) (by omega)
  have N11 : ch_N w 1 1 = (w 5 : Int) + (w 7 : Int) + (w 8 : Int) + (w 9 : Int) := by
    rw [tr_Nd h1]; simp only [ch_W, Nat.reduceMul, Nat.reduceAdd]; omega
  have N12 : ch_N w 1 2 = -(w 7 : Int) := tr_No h1 (by decide)
  have N13 : ch_N w 1 3 = -(w 8 : Int) := tr_No h1 (by decide)
  have N14 : ch_N w 1 4 = -(w 9 : Int) := tr_No h1 (by decide)
  have h2 := hW 2 (by omega) (by omega)
  have N21 : ch_N w 2 1 = -(w 11 : Int) := tr_No h2 (by decide)
  have N22 : ch_N w 2 2 = (w 10 : Int) + (w 11 : Int) + (w 13 : Int) + (w 14 : Int) := by
    rw [tr_Nd h2]; simp only [ch_W, Nat.reduceMul, Nat.reduceAdd]; omega
  have N23 : ch_N w 2 3 = -(w 13 : Int) := tr_No h2 (by decide)
  have N24 : ch_N w 2 4 = -(w 14 : Int) := tr_No h2 (by decide)
  have h3 := hW 3 (by omega) (by omega)
  have N31 : ch_N w 3 1 = -(w 16 : Int) := tr_No h3 (by decide)
  have N32 : ch_N w 3 2 = -(w 17 : Int) := tr_No h3 (by decide)
  have N33 : ch_N w 3 3 = (w 15 : Int) + (w 16 : Int) + (w 17 : Int) + (w 19 : Int) := by
    rw [tr_Nd h3]; simp only [ch_W, Nat.reduceMul, Nat.reduceAdd]; omega
  have N34 : ch_N w 3 4 = -(w 19 : Int) := tr_No h3 (by decide)
  have h4 := hW 4 (by omega) (by omega)
  have N41 : ch_N w 4 1 = -(w 21 : Int) := tr_No h4 (by decide)
  have N42 : ch_N w 4 2 = -(w 22 : Int) := tr_No h4 (by decide)
  have N43 : ch_N w 4 3 = -(w 23 : Int) := tr_No h4 (by decide)
  have N44 : ch_N w 4 4 = (w 20 : Int) + (w 21 : Int) + (w 22 : Int) + (w 23 : Int) := by
    rw [tr_Nd h4]; simp only [ch_W, Nat.reduceMul, Nat.reduceAdd]; omega
  show _ = ba_d4 (ch_N w 1 1) (ch_N w 1 2) (ch_N w 1 3) (ch_N w 1 4) (ch_N w 2 1) (ch_N w 2 2) (ch_N w 2 3) (ch_N w 2 4) (ch_N w 3 1) (ch_N w 3 2) (ch_N w 3 3) (ch_N w 3 4) (ch_N w 4 1) (ch_N w 4 2) (ch_N w 4 3) (ch_N w 4 4)
  rw [N11, N12, N13, N14, N21, N22, N23, N24, N31, N32, N33, N34, N41, N42, N43, N44]
theorem tr_d51 {w : Nat → Nat} (ok : ch_ok 5 w) (hW : ∀ s, s < 5 → s ≠ 1 → ch_W w s ≠ 0) : (tr_sum w 5 1 3125 : Int) = ba_D (ch_N w) [0, 2, 3, 4] := by
  rw [tr_sum_list, tr_sum_z, ← tr_p51]
  have h0 := hW 0 (by omega) (by omega)
  have N00 : ch_N w 0 0 = (w 1 : Int) + (w 2 : Int) + (w 3 : Int) + (w 4 : Int) := by
    rw [tr_Nd h0]; simp only [ch_W, Nat.reduceMul, Nat.reduceAdd]; omega
  have N02 : ch_N w 0 2 = -(w 2 : Int) := tr_No h0 (by decide)
  have N03 : ch_N w 0 3 = -(w 3 : Int) := tr_No h0 (by decide)
  have N04 : ch_N w 0 4 = -(w 4 : Int) := tr_No h0 (by decide)
  have h2 := hW 2 (by omega) (by omega)
  have N20 : ch_N w 2 0 = -(w 10 : Int) := tr_No h2 (by decide)
  have N22 : ch_N w 2 2 = (w 10 : Int) + (w 11 : Int) + (w 13 : Int) + (w 14 : Int) := by
    rw [tr_Nd h2]; simp only [ch_W, Nat.reduceMul, Nat.reduceAdd]; omega
  have N23 : ch_N w 2 3 = -(w 13 : Int) := tr_No h2 (by decide)
  have N24 : ch_N w 2 4 = -(w 14 : Int) := tr_No h2 (by decide)
  have h3 := hW 3 (by omega) (by omega)
  have N30 : ch_N w 3 0 = -(w 15 : Int) := tr_No h3 (by decide)
  have N32 : ch_N w 3 2 = -(w 17 : Int) := tr_No h3 (by decide)
  have N33 : ch_N w 3 3 = (w 15 : Int) + (w 16 : Int) + (w 17 : Int) + (w 19 : Int) := by
    rw [tr_Nd h3]; simp only [ch_W, Nat.reduceMul, Nat.reduceAdd]; omega
  have N34 : ch_N w 3 4 = -(w 19 : Int) := tr_No h3 (by decide)
  have h4 := hW 4 (by omega) (by omega)
  have N40 : ch_N w 4 0 = -(w 20 : Int) := tr_No h4 (by decide)
  have N42 : ch_N w 4 2 = -(w 22 : Int) := tr_No h4 (by decide)
  have N43 : ch_N w 4 3 = -(w 23 : Int) := tr_No h4 (by decide)
  have N44 : ch_N w 4 4 = (w 20 : Int) + (w 21 : Int) + (w 22 : Int) + (w 23 : Int) := by
    rw [tr_Nd h4]; simp only [ch_W, Nat.reduceMul, Nat.reduceAdd]; omega
  show _ = ba_d4 (ch_N w 0 0) (ch_N w 0 2) (ch_N w 0 3) (ch_N w 0 4) (ch_N w 2 0) (ch_N w 2 2) (ch_N w 2 3) (ch_N w 2 4) (ch_N w 3 0) (ch_N w 3 2) (ch_N w 3 3) (ch_N w 3 4) (ch_N w 4 0) (ch_N w 4 2) (ch_N w 4 3) (ch_N w 4 4)
  rw [N00, N02, N03, N04, N20, N22, N23, N24, N30, N32, N33, N34, N40, N42, N43, N44]
theorem tr_d52 {w : Nat → Nat} (ok : ch_ok 5 w) (hW : ∀ s, s < 5 → s ≠ 2 → ch_W w s ≠ 0) : (tr_sum w 5 2 3125 : Int) = ba_D (ch_N w) [0, 1, 3, 4] := by
  rw [tr_sum_list, tr_sum_z, ← tr_p52]
  have h0 := hW 0 (by omega) (by omega)
  have N00 : ch_N w 0 0 = (w 1 : Int) + (w 2 : Int) + (w 3 : Int) + (w 4 : Int) := by
    rw [tr_Nd h0]; simp only [ch_W, Nat.reduceMul, Nat.reduceAdd]; omega
  have N01 : ch_N w 0 1 = -(w 1 : Int) := tr_No h0 (by decide)
  have N03 : ch_N w 0 3 = -(w 3 : Int) := tr_No h0 (by decide)
  have N04 : ch_N w 0 4 = -(w 4 : Int) := tr_No h0 (by decide)
  have h1 := hW 1 (by omega) (by omega)
  have N10 : ch_N w 1 0 = -(w 5 : Int) := tr_No h1 (by decide)
  have N11 : ch_N w 1 1 = (w 5 : Int) + (w 7 : Int) + (w 8 : Int) + (w 9 : Int) := by
    rw [tr_Nd h1]; simp only [ch_W, Nat.reduceMul, Nat.reduceAdd]; omega
  have N13 : ch_N w 1 3 = -(w 8 : Int) := tr_No h1 (by decide)
  have N14 : ch_N w 1 4 = -(w 9 : Int) := tr_No h1 (by decide)
  have h3 := hW 3 (by omega) (by omega)
  have N30 : ch_N w 3 0 = -(w 15 : Int) := tr_No h3 (by decide)
  have N31 : ch_N w 3 1 = -(w 16 : Int) := tr_No h3 (by decide)
  have N33 : ch_N w 3 3 = (w 15 : Int) + (w 16 : Int) + (w 17 : Int) + (w 19 : Int) := by
    rw [tr_Nd h3]; simp only [ch_W, Nat.reduceMul, Nat.reduceAdd]; omega
  have N34 : ch_N w 3 4 = -(w 19 : Int) := tr_No h3 (by decide)
  have h4 := hW 4 (by omega) (by omega)
  have N40 : ch_N w 4 0 = -(w 20 : Int) := tr_No h4 (by decide)
  have N41 : ch_N w 4 1 = -(w 21 : Int) := tr_No h4 (by decide)
  have N43 : ch_N w 4 3 = -(w 23 : Int) := tr_No h4 (by decide)
  have N44 : ch_N w 4 4 = (w 20 : Int) + (w 21 : Int) + (w 22 : Int) + (w 23 : Int) := by
    rw [tr_Nd h4]; simp only [ch_W, Nat.reduceMul, Nat.reduceAdd]; omega
  show _ = ba_d4 (ch_N w 0 0) (ch_N w 0 1) (ch_N w 0 3) (ch_N w 0 4) (ch_N w 1 0) (ch_N w 1 1) (ch_N w 1 3) (ch_N w 1 4) (ch_N w 3 0) (ch_N w 3 1) (ch_N w 3 3) (ch_N w 3 4) (ch_N w 4 0) (ch_N w 4 1) (ch_N w 4 3) (ch_N w 4 4)
  rw [N00, N01, N03, N04, N10, N11, N13, N14, N30, N31, N33, N34, N40, N41, N43, N44]
theorem tr_d53 {w : Nat → Nat} (ok : ch_ok 5 w) (hW : ∀ s, s < 5 → s ≠ 3 → ch_W w s ≠ 0) : (tr_sum w 5 3 3125 : Int) = ba_D (ch_N w) [0, 1, 2, 4] := by
  rw [tr_sum_list, tr_sum_z, ← tr_p53]
  have h0 := hW 0 (by omega) (by omega)
  have N00 : ch_N w 0 0 = (w 1 : Int) + (w 2 : Int) + (w 3 : Int) + (w 4 : Int) := by
    rw [tr_Nd h0]; simp only [ch_W, Nat.reduceMul, Nat.reduceAdd]; omega
  have N01 : ch_N w 0 1 = -(w 1 : Int) := tr_No h0 (by decide)
  have N02 : ch_N w 0 2 = -(w 2 : Int) := tr_No h0 (by decide)
  have N04 : ch_N w 0 4 = -(w 4 : Int) := tr_No h0 (by decide)
  have h1 := hW 1 (by omega) (by omega)
  have N10 : ch_N w 1 0 = -(w 5 : Int) := tr_No h1 (by decide)
  have N11 : ch_N w 1 1 = (w 5 : Int) + (w 7 : Int) + (w 8 : Int) + (w 9 : Int) := by
    rw [tr_Nd h1]; simp only [ch_W, Nat.reduceMul, Nat.reduceAdd]; omega
  have N12 : ch_N w 1 2 = -(w 7 : Int) := tr_No h1 (by decide)
  have N14 : ch_N w 1 4 = -(w 9 : Int) := tr_No h1 (by decide)
  have h2 := hW 2 (by omega) (by omega)
  have N20 : ch_N w 2 0 = -(w 10 : Int) := tr_No h2 (by decide)
  have N21 : ch_N w 2 1 = -(w 11 : Int) := tr_No h2 (by decide)
  have N22 : ch_N w 2 2 = (w 10 : Int) + (w 11 : Int) + (w 13 : Int) + (w 14 : Int) := by
    rw [tr_Nd h2]; simp only [ch_W, Nat.reduceMul, Nat.reduceAdd]; omega
  have N24 : ch_N w 2 4 = -(w 14 : Int) := tr_No h2 (by decide)
  have h4 := hW 4 (by omega) (by omega)
  have N40 : ch_N w 4 0 = -(w 20 : Int) := tr_No h4 (by decide)
  have N41 : ch_N w 4 1 = -(w 21 : Int) := tr_No h4 (by decide)
  have N42 : ch_N w 4 2 = -(w 22 : Int) := tr_No h4 (by decide)
  have N44 : ch_N w 4 4 = (w 20 : Int) + (w 21 : Int) + (w 22 : Int) + (w 23 : Int) := by
    rw [tr_Nd h4]; simp only [ch_W, Nat.reduceMul, Nat.reduceAdd]; omega
  show _ = ba_d4 (ch_N w 0 0) (ch_N w 0 1) (ch_N w 0 2) (ch_N w 0 4) (ch_N w 1 0) (ch_N w 1 1) (ch_N w 1 2) (ch_N w 1 4) (ch_N w 2 0) (ch_N w 2 1) (ch_N w 2 2) (ch_N w 2 4) (ch_N w 4 0) (ch_N w 4 1) (ch_N w 4 2) (ch_N w 4 4)
  rw [N00, N01, N02, N04, N10, N11, N12, N14, N20, N21, N22, N24, N40, N41, N42, N44]
theorem tr_d54 {w : Nat → Nat} (ok : ch_ok 5 w) (hW : ∀ s, s < 5 → s ≠ 4 → ch_W w s ≠ 0) : (tr_sum w 5 4 3125 : Int) = ba_D (ch_N w) [0, 1, 2, 3] := by
  rw [tr_sum_list, tr_sum_z, ← tr_p54]
  have h0 := hW 0 (by omega) (by omega)
  have N00 : ch_N w 0 0 = (w 1 : Int) + (w 2 : Int) + (w 3 : Int) + (w 4 : Int) := by
    rw [tr_Nd h0]; simp only [ch_W, Nat.reduceMul, Nat.reduceAdd]; omega
  have N01 : ch_N w 0 1 = -(w 1 : Int) := tr_No h0 (by decide)
  have N02 : ch_N w 0 2 = -(w 2 : Int) := tr_No h0 (by decide)
  have N03 : ch_N w 0 3 = -(w 3 : Int) := tr_No h0 (by decide)
  have h1 := hW 1 (by omega) (by omega)
  have N10 : ch_N w 1 0 = -(w 5 : Int) := tr_No h1 (by decide)
  have N11 : ch_N w 1 1 = (w 5 : Int) + (w 7 : Int) + (w 8 : Int) + (w 9 : Int) := by
    rw [tr_Nd h1]; simp only [ch_W, Nat.reduceMul, Nat.reduceAdd]; omega
  have N12 : ch_N w 1 2 = -(w 7 : Int) := tr_No h1 (by decide)
  have N13 : ch_N w 1 3 = -(w 8 : Int) := tr_No h1 (by decide)
  have h2 := hW 2 (by omega) (by omega)
  have N20 : ch_N w 2 0 = -(w 10 : Int) := tr_No h2 (by decide)
  have N21 : ch_N w 2 1 = -(w 11 : Int) := tr_No h2 (by decide)
  have N22 : ch_N w 2 2 = (w 10 : Int) + (w 11 : Int) + (w 13 : Int) + (w 14 : Int) := by
    rw [tr_Nd h2]; simp only [ch_W, Nat.reduceMul, Nat.reduceAdd]; omega
  have N23 : ch_N w 2 3 = -(w 13 : Int) := tr_No h2 (by decide)
  have h3 := hW 3 (by omega) (by omega)
  have N30 : ch_N w 3 0 = -(w 15 : Int) := tr_No h3 (by decide)
  have N31 : ch_N w 3 1 = -(w 16 : Int) := tr_No h3 (by decide)
  have N32 : ch_N w 3 2 = -(w 17 : Int) := tr_No h3 (by decide)
  have N33 : ch_N w 3 3 = (w 15 : Int) + (w 16 : Int) + (w 17 : Int) + (w 19 : Int) := by
    rw [tr_Nd h3]; simp only [ch_W, Nat.reduceMul, Nat.reduceAdd]; omega
  show _ = ba_d4 (ch_N w 0 0) (ch_N w 0 1) (ch_N w 0 2) (ch_N w 0 3) (ch_N w 1 0) (ch_N w 1 1) (ch_N w 1 2) (ch_N w 1 3) (ch_N w 2 0) (ch_N w 2 1) (ch_N w 2 2) (ch_N w 2 3) (ch_N w 3 0) (ch_N w 3 1) (ch_N w 3 2) (ch_N w 3 3)
  rw [N00, N01, N02, N03, N10, N11, N12, N13, N20, N21, N22, N23, N30, N31, N32, N33]
theorem tr_det {n r : Nat} {w : Nat → Nat} (ok : ch_ok n w) (hr : r < n) (hW : ∀ s, s < n → s ≠ r → ch_W w s ≠ 0) : (tr_sum w n r 3125 : Int) = ba_D (ch_N w) (ba_ops (fun s => !(s == r)) n) := by
  have h5 := ok.2.1
  match n, r, hr, h5 with
  | 1, 0, _, _ => exact tr_d10 ok hW
  | 2, 0, _, _ => exact tr_d20 ok hW
  | 2, 1, _, _ => exact tr_d21 ok hW
  | 3, 0, _, _ => exact tr_d30 ok hW
  | 3, 1, _, _ => exact tr_d31 ok hW
  | 3, 2, _, _ => exact tr_d32 ok hW
  | 4, 0, _, _ => exact tr_d40 ok hW
  | 4, 1, _, _ => exact tr_d41 ok hW
  | 4, 2, _, _ => exact tr_d42 ok hW
  | 4, 3, _, _ => exact tr_d43 ok hW
  | 5, 0, _, _ => exact tr_d50 ok hW
  | 5, 1, _, _ => exact tr_d51 ok hW
  | 5, 2, _, _ => exact tr_d52 ok hW
  | 5, 3, _, _ => exact tr_d53 ok hW
  | 5, 4, _, _ => exact tr_d54 ok hW
  | 0, _, hr, _ => omega
  | 1, r + 1, hr, _ => omega
  | 2, r + 2, hr, _ => omega
  | 3, r + 3, hr, _ => omega
  | 4, r + 4, hr, _ => omega
  | 5, r + 5, hr, _ => omega
  | n + 6, _, _, h5 => omega
theorem tr_prod_mem {w : Nat → Nat} : ∀ {l : List Nat}, tr_prod w l ≠ 0 → ∀ k, k ∈ l → 0 < w k := by
  intro l
  induction l with
  | nil => intro _ k h; simp at h
  | cons a l ih =>
    intro h k hk
    unfold tr_prod at h
    have h1 : w a ≠ 0 := fun z => h (by rw [z, Nat.zero_mul])
    have h2 : tr_prod w l ≠ 0 := fun z => h (by rw [z, Nat.mul_zero])
    rcases List.mem_cons.mp hk with e | e
    · rw [e]; omega
    · exact ih h2 k e
theorem tr_fine_of {n r m : Nat} (hn : n ≤ 5) (g : tr_good n r m = true) {s : Nat} (hs : s < n) (ne : s ≠ r) : tr_dig m s < n := by
  unfold tr_good at g
  simp only [Bool.and_eq_true] at g
  have f : tr_fine n r m s = true := by
    rcases (by omega : s = 0 ∨ s = 1 ∨ s = 2 ∨ s = 3 ∨ s = 4) with e | e | e | e | e <;> rw [e]
    · exact g.1.1.1.1.1
    · exact g.1.1.1.1.2
    · exact g.1.1.1.2
    · exact g.1.1.2
    · exact g.1.2
  unfold tr_fine at f
  rw [if_neg (by omega)] at f
  simp only [Bool.and_eq_true, decide_eq_true_eq] at f
  exact f.1
theorem tr_lead {n r m : Nat} {w : Nat → Nat} (hn : n ≤ 5) (g : tr_good n r m = true) (nz : tr_prod w (tr_idx n r m) ≠ 0) :
    ∀ s, s < n → ∃ k, gr_L n (fun i j => 0 < ch_sw w i j) (fun i => i = r) (fun _ => False) k s := by
  have pos : ∀ s, s < n → s ≠ r → 0 < w (5 * s + tr_dig m s) := by
    intro s hs ne
    apply tr_prod_mem nz
    unfold tr_idx
    apply List.mem_map.mpr
    exact ⟨s, List.mem_filter.mpr ⟨List.mem_range.mpr hs, by simp [ne]⟩, rfl⟩
  have it : ∀ t s, s < n → tr_it m r t s = r → ∃ k, gr_L n (fun i j => 0 < ch_sw w i j) (fun i => i = r) (fun _ => False) k s := by
    intro t
    induction t with
    | zero => intro s _ h; exact ⟨0, h⟩
    | succ t ih =>
      intro s hs h
      by_cases e : s = r
      · exact ⟨0, e⟩
      · unfold tr_it at h
        rw [if_neg e] at h
        have d := tr_fine_of hn g hs e
        obtain ⟨k, l⟩ := ih _ d h
        refine ⟨k + 1, .inr ⟨fun z => z, tr_dig m s, d, ?_, l⟩⟩
        have p := pos s hs e
        have W : ch_W w s ≠ 0 := by
          unfold ch_W
          have d5 : tr_dig m s < 5 := by omega
          rcases (by omega : tr_dig m s = 0 ∨ tr_dig m s = 1 ∨ tr_dig m s = 2 ∨ tr_dig m s = 3 ∨ tr_dig m s = 4) with q | q | q | q | q <;> rw [q] at p <;> (try simp only [Nat.add_zero] at p) <;> omega
        show 0 < ch_sw w s (tr_dig m s)
        unfold ch_sw
        rw [if_neg W]
        exact p
  intro s hs
  apply it 5 s hs
  unfold tr_good at g
  simp only [Bool.and_eq_true] at g
  have a := g.2
  unfold tr_leads at a
  rw [List.all_eq_true] at a
  have := a s (List.mem_range.mpr hs)
  simpa using this
theorem tr_zero {n r : Nat} {w : Nat → Nat} (hn : n ≤ 5) {s : Nat} (hs : s < n) (no : ¬ gr_L n (fun i j => 0 < ch_sw w i j) (fun i => i = r) (fun _ => False) (n - 1) s) : ∀ m, tr_sum w n r m = 0 := by
  intro m
  induction m with
  | zero => rfl
  | succ m ih =>
    unfold tr_sum
    rw [ih]
    by_cases g : tr_good n r m = true
    · rw [if_pos g]
      by_cases z : tr_prod w (tr_idx n r m) = 0
      · rw [z]
      · obtain ⟨k, l⟩ := tr_lead hn g z s hs
        exact absurd (gr_L_stab k s hs l) no
    · rw [if_neg g]
end
section
/-! one stage of elimination by fractions: the rows are multiples of the whole-number rows -/
theorem ba_ops_mono (U : Nat → Bool) {k m : Nat} (h : k ≤ m) : (ba_ops U k).length ≤ (ba_ops U m).length := by
  induction m with
  | zero => rw [show k = 0 by omega]; exact Nat.le_refl _
  | succ m ih =>
    rcases Nat.lt_or_ge m k with q | q
    · rw [show k = m + 1 by omega]; exact Nat.le_refl _
    · refine Nat.le_trans (ih q) ?_
      by_cases e : U m = true
      · simp only [ba_ops, e, if_true, List.length_append, List.length_singleton]; omega
      · rw [ba_ops_n e]; exact Nat.le_refl _
theorem ba_ops_succ {U : Nat → Bool} {k : Nat} (u : U k = true) : ba_ops U (k + 1) = ba_ops U k ++ [k] := by simp only [ba_ops, u, if_true]
theorem ba_ops_len3 {n : Nat} {U : Nat → Bool} (hn : n ≤ 5) {z : Nat} (hz : z < n) (uz : U z = false) {k : Nat} (hk : k < n) (uk : U k = true) : (ba_ops U k).length ≤ 3 := by
  have zk : z ≠ k := fun q => by rw [q, uk] at uz; cases uz
  have l1 := ba_ops_len U k
  rcases Nat.lt_or_ge k 4 with q | q
  · omega
  · have := ba_ops_lenz uz k (by omega); omega
theorem sv_DT {n : Nat} {w : Nat → Nat} (ok : ch_ok n w) {U : Nat → Bool} (h : sv_ok n w U) {z : Nat} (hz : z < n) (uz : U z = false) {k : Nat} (hk : k ≤ n) : 0 < ba_D (ch_N w) (ba_ops U k) ∧ ba_D (ch_N w) (ba_ops U k) ≤ 45 ^ (ba_ops U k).length := by
  obtain ⟨g, h⟩ := h
  refine ⟨(h k hk).1, ba_Dle ok.2.1 hz uz h ?_ k hk⟩
  intro a ha _
  have := ch_N_b ok ha ha
  omega
theorem ye_pow {a b : Nat} (h : a ≤ b) : (45 : Int) ^ a ≤ 45 ^ b := by
  have : 45 ^ a ≤ 45 ^ b := Nat.pow_le_pow_right (by omega) h
  have e : ∀ k : Nat, ((45 ^ k : Nat) : Int) = (45 : Int) ^ k := fun k => by simp
  rw [← e, ← e]; omega
def ye_mn (w : Nat → Nat) (U : Nat → Bool) (k s : Nat) : Int := if s < k then ba_D (ch_N w) (ba_ops U (s + 1)) else 1
def ye_md (w : Nat → Nat) (U : Nat → Bool) (k s : Nat) : Int := (ch_tot w s : Int) * if s < k then ba_D (ch_N w) (ba_ops U s) else 1
theorem ye_m {n : Nat} {w : Nat → Nat} (ok : ch_ok n w) {U : Nat → Bool} (h : sv_ok n w U) {z : Nat} (hz : z < n) (uz : U z = false) {k s : Nat} (hk : k ≤ n) (hs : s < n) (us : U s = true) (l3 : (ba_ops U k).length ≤ 3) :
    0 < ye_mn w U k s ∧ 0 < ye_md w U k s ∧ (s < k → ye_mn w U k s ≤ 91125) ∧ (k ≤ s → ye_mn w U k s = 1) ∧ ye_md w U k s ≤ 91125 := by
  have t1 := ch_tot_pos w s
  have t2 := ch_tot_le ok (i := s) (by have := ok.2.1; omega)
  unfold ye_mn ye_md
  by_cases q : s < k
  · have a := sv_DT ok h hz uz (k := s + 1) (by omega)
    have b := sv_DT ok h hz uz (k := s) (by omega)
    have l := ba_ops_mono U (k := s + 1) (m := k) (by omega)
    have e : (ba_ops U (s + 1)).length = (ba_ops U s).length + 1 := by rw [ba_ops_succ us, List.length_append]; rfl
    have p3 := ye_pow (a := (ba_ops U (s + 1)).length) (b := 3) (by omega)
    have p2 := ye_pow (a := (ba_ops U s).length) (b := 2) (by omega)
    rw [if_pos q, if_pos q]
    have p3' : (45 : Int) ^ 3 = 91125 := by decide
    have p2' : (45 : Int) ^ 2 = 2025 := by decide
    refine ⟨a.1, Int.mul_pos (by omega) b.1, fun _ => by omega, fun z => absurd q (by omega), ?_⟩
    have : (ch_tot w s : Int) * ba_D (ch_N w) (ba_ops U s) ≤ 45 * 2025 := Int.mul_le_mul (by omega) (by omega) (by omega) (by omega)
    omega
  · rw [if_neg q, if_neg q]
    exact ⟨by omega, by omega, fun z => absurd z q, fun _ => rfl, by omega⟩
theorem ye_Fb {n : Nat} {w : Nat → Nat} (ok : ch_ok n w) {U : Nat → Bool} {k s : Nat} (hk : k ≤ n) (hs : s < n) (us : U s = true) (l3 : (ba_ops U k).length ≤ 3) {v : Nat → Int} (hv : ∀ t, t < n → U t = true → (v t).natAbs ≤ 45) :
    (ba_F (ch_N w) (ba_ops U k) s v).natAbs ≤ 98415000 ∧ (s < k → (ba_F (ch_N w) (ba_ops U k) s v).natAbs ≤ 546750) := by
  have hN : ∀ a, a < n → U a = true → ∀ b, b < n → U b = true → (ch_N w a b).natAbs ≤ 45 := fun a ha _ b hb _ => ch_N_b ok ha hb
  refine ⟨ba_Fb hk hs us hN hv, fun q => ?_⟩
  have m : ∀ a, a ∈ ba_ops U k → a < n ∧ U a = true := fun a ha => ⟨by have := (ba_ops_mem.mp ha).1; omega, (ba_ops_mem.mp ha).2⟩
  refine Nat.le_trans (ba_FbIn _ v _ s (ba_ops_mem.mpr ⟨q, us⟩) (fun a ha b hb => hN a (m a ha).1 (m a ha).2 b (m b hb).1 (m b hb).2) (fun a ha => hv a (m a ha).1 (m a ha).2)) ?_
  generalize (ba_ops U k).length = l at *
  match l, l3 with
  | 0, _ => decide
  | 1, _ => decide
  | 2, _ => decide
  | 3, _ => decide
theorem ye_stage {n : Nat} {w : Nat → Nat} (ok : ch_ok n w) {U : Nat → Bool} (h : sv_ok n w U) {z : Nat} (hz : z < n) (uz : U z = false) {k s : Nat} (hk : k < n) (uk : U k = true) (hs : s < n) (us : U s = true) (ne : s ≠ k) {v : Nat → Int} (hv : ∀ t, t < n → U t = true → (v t).natAbs ≤ 45) :
    let F := ba_F (ch_N w) (ba_ops U k); let D := ba_D (ch_N w) (ba_ops U k); let D' := ba_D (ch_N w) (ba_ops U (k + 1))
    let mn := ye_mn w U k s; let md := ye_md w U k s
    0 < mn ∧ 0 < md ∧ 0 < D ∧ 0 < D' ∧ (mn * F s (fun t => ch_N w t k) * (ch_tot w k : Int)).natAbs < 9223372036854775808 ∧ md * D' < 9223372036854775808 ∧
    (mn * F s v * D').natAbs + (mn * F s (fun t => ch_N w t k) * F k v).natAbs < 9223372036854775808 ∧ md * D * D' < 9223372036854775808 ∧
    mn * F s v * D' - mn * F s (fun t => ch_N w t k) * F k v = mn * ba_F (ch_N w) (ba_ops U (k + 1)) s v * D ∧
    ye_mn w U (k + 1) s = mn ∧ ye_md w U (k + 1) s = md := by
  intro F D D' mn md
  have l3 := ba_ops_len3 ok.2.1 hz uz hk uk
  obtain ⟨m1, m2, m3, m4, m5⟩ := ye_m ok h hz uz (k := k) (by omega) hs us l3
  have d1 := sv_DT ok h hz uz (k := k) (by omega)
  have d2 := sv_DT ok h hz uz (k := k + 1) (by omega)
  have e1 : (ba_ops U (k + 1)).length = (ba_ops U k).length + 1 := by rw [ba_ops_succ uk, List.length_append]; rfl
  have p3 := ye_pow (a := (ba_ops U k).length) (b := 3) (by omega)
  have p4 := ye_pow (a := (ba_ops U (k + 1)).length) (b := 4) (by omega)
  have p3' : (45 : Int) ^ 3 = 91125 := by decide
  have p4' : (45 : Int) ^ 4 = 4100625 := by decide
  have D3 : D ≤ 91125 := by show ba_D (ch_N w) (ba_ops U k) ≤ _; omega
  have D4 : D' ≤ 4100625 := by show ba_D (ch_N w) (ba_ops U (k + 1)) ≤ _; omega
  have hc : ∀ t, t < n → U t = true → (ch_N w t k).natAbs ≤ 45 := fun t ht _ => ch_N_b ok ht hk
  have b1 := ye_Fb ok (k := k) (by omega) hs us l3 hv
  have b2 := ye_Fb ok (k := k) (by omega) hs us l3 (v := fun t => ch_N w t k) hc
  have b3 := ye_Fb ok (k := k) (by omega) hk uk l3 hv
  have t2 := ch_tot_le ok (i := k) (by have := ok.2.1; omega)
  have ni : k ∉ ba_ops U k := fun q => by have := (ba_ops_mem.mp q).1; omega
  have st : D * ba_F (ch_N w) (ba_ops U (k + 1)) s v = D' * F s v - F s (fun t => ch_N w t k) * F k v := by
    show ba_D (ch_N w) (ba_ops U k) * _ = ba_D (ch_N w) (ba_ops U (k + 1)) * _ - _
    rw [ba_ops_succ uk, ba_stepD _ _ _ l3 ni]
    refine ba_step _ _ k s v l3 (ba_ops_nodup U k) ni ne ?_
    intro l4
    rcases Nat.lt_or_ge s k with q | q
    · exact ba_ops_mem.mpr ⟨q, us⟩
    · exfalso
      have zs : z ≠ s := fun q => by rw [q, us] at uz; cases uz
      have zk : z ≠ k := fun q => by rw [q, uk] at uz; cases uz
      have l1 := ba_ops_len U k
      have h5 := ok.2.1
      rcases Nat.lt_or_ge z k with w | w
      · have := ba_ops_lenz uz k w; omega
      · omega
  have same1 : ye_mn w U (k + 1) s = mn := by
    show ye_mn w U (k + 1) s = ye_mn w U k s
    unfold ye_mn
    by_cases q : s < k
    · rw [if_pos q, if_pos (by omega)]
    · rw [if_neg q, if_neg (by omega)]
  have same2 : ye_md w U (k + 1) s = md := by
    show ye_md w U (k + 1) s = ye_md w U k s
    unfold ye_md
    by_cases q : s < k
    · rw [if_pos q, if_pos (by omega)]
    · rw [if_neg q, if_neg (by omega)]
  have mdD : md * D' ≤ 91125 * 4100625 := Int.mul_le_mul m5 D4 (Int.le_of_lt d2.1) (by omega)
  have mdDD : md * D * D' ≤ 91125 * 91125 * 4100625 := Int.mul_le_mul (Int.mul_le_mul m5 D3 (Int.le_of_lt d1.1) (by omega)) D4 (Int.le_of_lt d2.1) (by omega)
  have D'a : D'.natAbs ≤ 4100625 := by have := d2.1; show (ba_D (ch_N w) (ba_ops U (k + 1))).natAbs ≤ _; omega
  have ta : ((ch_tot w k : Nat) : Int).natAbs ≤ 45 := by omega
  refine ⟨m1, m2, d1.1, d2.1, ?_, by omega, ?_, by omega, ?_, same1, same2⟩
  · rcases Nat.lt_or_ge s k with q | q
    · have a : mn.natAbs ≤ 91125 := by have := m3 q; show (ye_mn w U k s).natAbs ≤ _; omega
      exact Nat.lt_of_le_of_lt (ba_nm (ba_nm a (b2.2 q)) ta) (by decide)
    · have a : mn.natAbs ≤ 1 := by have := m4 q; show (ye_mn w U k s).natAbs ≤ _; omega
      exact Nat.lt_of_le_of_lt (ba_nm (ba_nm a b2.1) ta) (by decide)
  · rcases Nat.lt_or_ge s k with q | q
    · have a : mn.natAbs ≤ 91125 := by have := m3 q; show (ye_mn w U k s).natAbs ≤ _; omega
      have x1 := ba_nm (ba_nm a (b1.2 q)) D'a
      have x2 := ba_nm (ba_nm a (b2.2 q)) b3.1
      exact Nat.lt_of_le_of_lt (Nat.add_le_add x1 x2) (by decide)
    · have a : mn.natAbs ≤ 1 := by have := m4 q; show (ye_mn w U k s).natAbs ≤ _; omega
      have x1 := ba_nm (ba_nm a b1.1) D'a
      have x2 := ba_nm (ba_nm a b2.1) b3.1
      exact Nat.lt_of_le_of_lt (Nat.add_le_add x1 x2) (by decide)
  · have : mn * F s v * D' - mn * F s (fun t => ch_N w t k) * F k v = mn * (D' * F s v - F s (fun t => ch_N w t k) * F k v) := by grind
    rw [this, ← st]
    grind
end
section
/-! one stage of elimination without fractions: what stands in the table of the component -/
def xe_rhs (w : Nat → Nat) (U : Nat → Bool) (b r0 : Nat → Int) (k t : Nat) : Int := r0 t - ba_S (fun m => if U m = true then 0 else b m * ch_N w t m) k
def xe_vec (w : Nat → Nat) (U : Nat → Bool) (b r0 : Nat → Int) (k c t : Nat) : Int :=
  if c = 5 then xe_rhs w U b r0 k t else if c < k ∧ U c = false then 0 else ch_N w t c
def xe_id (b : Nat → Int) (s c : Nat) : Int := if c = 5 then b s else if c = s then 1 else 0
def xe_val (w : Nat → Nat) (U : Nat → Bool) (b r0 : Nat → Int) (k s c : Nat) : Int :=
  if U s = true then ba_F (ch_N w) (ba_ops U k) s (xe_vec w U b r0 k c) else ba_D (ch_N w) (ba_ops U k) * xe_id b s c
theorem xe_piv {n : Nat} {w : Nat → Nat} (ok : ch_ok n w) {U : Nat → Bool} {z : Nat} (hz : z < n) (uz : U z = false) (b r0 : Nat → Int) {k : Nat} (hk : k < n) :
    xe_val w U b r0 k k k = ba_D (ch_N w) (ba_ops U (k + 1)) := by
  have h5 := ok.2.1
  unfold xe_val
  by_cases uk : U k = true
  · rw [if_pos uk]
    have ni : k ∉ ba_ops U k := fun q => by have := (ba_ops_mem.mp q).1; omega
    rw [ba_ops_succ uk, ba_stepD _ _ _ (ba_ops_len3 h5 hz uz hk uk) ni]
    have e : xe_vec w U b r0 k k = fun t => ch_N w t k := by
      funext t
      unfold xe_vec
      rw [if_neg (by omega), if_neg (by omega)]
    rw [e]
  · rw [if_neg uk]
    have e : ba_ops U (k + 1) = ba_ops U k := by exact ba_ops_n uk
    rw [e]
    unfold xe_id
    rw [if_neg (by omega), if_pos rfl, Int.mul_one]
theorem xe_same {n : Nat} {w : Nat → Nat} (ok : ch_ok n w) {U : Nat → Bool} {z : Nat} (hz : z < n) (uz : U z = false) (b r0 : Nat → Int) {k : Nat} (hk : k < n) (c : Nat) :
    xe_val w U b r0 (k + 1) k c = xe_val w U b r0 k k c := by
  have h5 := ok.2.1
  unfold xe_val
  by_cases uk : U k = true
  · rw [if_pos uk, if_pos uk]
    have ni : k ∉ ba_ops U k := fun q => by have := (ba_ops_mem.mp q).1; omega
    rw [ba_ops_succ uk, ba_stepP _ _ _ _ (ba_ops_len3 h5 hz uz hk uk) ni]
    congr 1
    funext t
    unfold xe_vec xe_rhs
    simp only [ba_S, uk, if_true, Int.add_zero]
    by_cases q : c = k
    · simp [q, uk]
    · have : (c < k + 1 ∧ U c = false) = (c < k ∧ U c = false) := by
        apply propext
        constructor
        · rintro ⟨a, b⟩; exact ⟨by omega, b⟩
        · rintro ⟨a, b⟩; exact ⟨by omega, b⟩
      simp only [this]
  · rw [if_neg uk, if_neg uk]
    have e : ba_ops U (k + 1) = ba_ops U k := by exact ba_ops_n uk
    rw [e]
theorem xe_step {n : Nat} {w : Nat → Nat} (ok : ch_ok n w) {U : Nat → Bool} (h : sv_ok n w U) {z : Nat} (hz : z < n) (uz : U z = false) (b r0 : Nat → Int) {k s : Nat} (hk : k < n) (hs : s < n) (ne : s ≠ k) {c : Nat} (hc : c < n ∨ c = 5) :
    xe_val w U b r0 k k k * xe_val w U b r0 k s c - xe_val w U b r0 k s k * xe_val w U b r0 k k c = ba_D (ch_N w) (ba_ops U k) * xe_val w U b r0 (k + 1) s c := by
  have h5 := ok.2.1
  rw [xe_piv ok hz uz b r0 hk]
  have vk : xe_vec w U b r0 k k = fun t => ch_N w t k := by
    funext t
    unfold xe_vec
    rw [if_neg (by omega), if_neg (by omega)]
  by_cases uk : U k = true
  · have l3 := ba_ops_len3 h5 hz uz hk uk
    have ni : k ∉ ba_ops U k := fun q => by have := (ba_ops_mem.mp q).1; omega
    have vc : xe_vec w U b r0 (k + 1) c = xe_vec w U b r0 k c := by
      funext t
      unfold xe_vec xe_rhs
      simp only [ba_S, uk, if_true, Int.add_zero]
      by_cases q : c = k
      · simp [q, uk]
      · have : (c < k + 1 ∧ U c = false) = (c < k ∧ U c = false) := by
          apply propext
          constructor
          · rintro ⟨a, b⟩; exact ⟨by omega, b⟩
          · rintro ⟨a, b⟩; exact ⟨by omega, b⟩
        simp only [this]
    by_cases us : U s = true
    · unfold xe_val
      simp only [us, uk, if_true]
      rw [vc, vk]
      have st := ba_step (ch_N w) (ba_ops U k) k s (xe_vec w U b r0 k c) l3 (ba_ops_nodup U k) ni ne (by
        intro l4
        rcases Nat.lt_or_ge s k with q | q
        · exact ba_ops_mem.mpr ⟨q, us⟩
        · exfalso
          have zs : z ≠ s := fun q => by rw [q, us] at uz; cases uz
          have zk : z ≠ k := fun q => by rw [q, uk] at uz; cases uz
          have l1 := ba_ops_len U k
          rcases Nat.lt_or_ge z k with w | w
          · have := ba_ops_lenz uz k w; omega
          · omega)
      rw [ba_ops_succ uk, st, ba_stepD _ _ _ l3 ni]
    · unfold xe_val
      simp only [us, uk, if_true, if_false]
      have : xe_id b s k = 0 := by unfold xe_id; rw [if_neg (by omega), if_neg (Ne.symm ne)]
      rw [this]
      grind
  · have e : ba_ops U (k + 1) = ba_ops U k := by exact ba_ops_n uk
    have uk' : U k = false := by simpa using uk
    by_cases us : U s = true
    · obtain ⟨g, T⟩ := h
      have lin := (T k (by omega)).2.1 s hs us
      unfold xe_val
      simp only [us, uk, if_true, if_false]
      rw [e, vk]
      have key : ba_F (ch_N w) (ba_ops U k) s (xe_vec w U b r0 (k + 1) c) = ba_F (ch_N w) (ba_ops U k) s (xe_vec w U b r0 k c) + (-(xe_id b k c)) * ba_F (ch_N w) (ba_ops U k) s (fun t => ch_N w t k) := by
        rw [← lin]
        congr 1
        funext t
        unfold xe_vec xe_id xe_rhs
        by_cases c5 : c = 5
        · simp only [c5, if_true, ba_S, uk, if_false]
          grind
        · simp only [c5, if_false]
          by_cases q : c = k
          · simp only [q, uk', and_true, Nat.lt_irrefl, Nat.lt_succ_self, if_true, if_false]
            grind
          · have : (c < k + 1 ∧ U c = false) = (c < k ∧ U c = false) := by
              apply propext
              constructor
              · rintro ⟨a, b⟩; exact ⟨by omega, b⟩
              · rintro ⟨a, b⟩; exact ⟨by omega, b⟩
            simp only [this, q, if_false]
            grind
      rw [key]
      grind
    · unfold xe_val
      simp only [us, uk, if_false]
      have : xe_id b s k = 0 := by unfold xe_id; rw [if_neg (by omega), if_neg (Ne.symm ne)]
      rw [this, e]
      grind
theorem xe_b {n : Nat} {w : Nat → Nat} (ok : ch_ok n w) {U : Nat → Bool} (h : sv_ok n w U) {z : Nat} (hz : z < n) (uz : U z = false) {b r0 : Nat → Int} (hb : ∀ s, s < n → (b s).natAbs ≤ 1)
    (hr : ∀ k t, k ≤ n → t < n → U t = true → (xe_rhs w U b r0 k t).natAbs ≤ 45) {k s c : Nat} (hk : k ≤ n) (hs : s < n) (hc : c < n ∨ c = 5) : (xe_val w U b r0 k s c).natAbs ≤ 98415000 := by
  unfold xe_val
  by_cases us : U s = true
  · rw [if_pos us]
    refine ba_Fb hk hs us (fun a ha _ b hb _ => ch_N_b ok ha hb) ?_
    intro a ha ua
    unfold xe_vec
    by_cases c5 : c = 5
    · rw [if_pos c5]; exact hr k a hk ha ua
    · rw [if_neg c5]
      split
      · decide
      · exact ch_N_b ok ha (by omega)
  · rw [if_neg us]
    have d := sv_DT ok h hz uz hk
    have l : (ba_ops U k).length ≤ 4 := by
      have h5 := ok.2.1
      rcases Nat.lt_or_ge z k with q | q
      · have := ba_ops_lenz uz k q; omega
      · have := ba_ops_len U k; omega
    have p4 := ye_pow (a := (ba_ops U k).length) (b := 4) l
    have p4' : (45 : Int) ^ 4 = 4100625 := by decide
    have i1 : (xe_id b s c).natAbs ≤ 1 := by
      unfold xe_id
      split
      · exact hb s hs
      · split <;> decide
    have d1 : (ba_D (ch_N w) (ba_ops U k)).natAbs ≤ 4100625 := by omega
    have := ba_nm d1 i1
    omega
end
section
/-! a pair of longs that holds a fraction in lowest terms -/
def fp_is (x y : Int64) (p q : Int) : Prop :=
  x = Int64.ofInt (Rat.divInt p q).num ∧ y = Int64.ofInt ((Rat.divInt p q).den : Int) ∧ (Rat.divInt p q).num.natAbs < 9223372036854775808 ∧ ((Rat.divInt p q).den : Int) < 9223372036854775808
theorem fp_mk {x y : Int64} {p q : Int} (hq : 0 < q) (bp : p.natAbs < 9223372036854775808) (bq : q < 9223372036854775808) (hx : x = Int64.ofInt (Rat.divInt p q).num) (hy : y = Int64.ofInt ((Rat.divInt p q).den : Int)) : fp_is x y p q := by
  have l := fr_le p hq
  exact ⟨hx, hy, by omega, by omega⟩
theorem fp_eq {x y : Int64} {p q p' q' : Int} (hq : 0 < q) (hq' : 0 < q') (h : p * q' = p' * q) (f : fp_is x y p q) : fp_is x y p' q' := by
  unfold fp_is
  rw [← fr_eq hq hq' h]
  exact f
theorem fp_neg {x y : Int64} {p q : Int} (f : fp_is x y p q) : fp_is (-x) y (-p) q := by
  obtain ⟨h1, h2, h3, h4⟩ := f
  unfold fp_is
  rw [← Rat.neg_divInt, Rat.neg_num, Rat.neg_den]
  exact ⟨by rw [h1, Int64.ofInt_neg], h2, by rw [Int.natAbs_neg]; exact h3, h4⟩
theorem fp_uniq {x y x' y' : Int64} {p q p' q' : Int} (hq : 0 < q) (hq' : 0 < q') (f : fp_is x y p q) (g : fp_is x' y' p' q') : (x = x' ∧ y = y') ↔ p * q' = p' * q := by
  constructor
  · rintro ⟨e1, e2⟩
    apply fr_cross hq hq'
    obtain ⟨h1, h2, h3, h4⟩ := f
    obtain ⟨g1, g2, g3, g4⟩ := g
    have d1 := fr_den_pos p q
    have d2 := fr_den_pos p' q'
    apply Rat.ext
    · rw [h1, g1] at e1
      exact (lz_eq h3 g3).mp e1
    · rw [h2, g2] at e2
      have := (lz_eq (by omega) (by omega)).mp e2
      omega
  · intro h
    have e := fr_eq hq hq' h
    unfold fp_is at f g
    rw [← e] at g
    exact ⟨by rw [f.1, g.1], by rw [f.2.1, g.2.1]⟩
theorem fp_zero {x y : Int64} {p q : Int} (hq : 0 < q) (f : fp_is x y p q) : x = 0 ↔ p = 0 := by
  obtain ⟨h1, _, h3, _⟩ := f
  rw [h1, lz_eq0 h3, Rat.num_eq_zero]
  constructor
  · intro h
    have := fr_cross hq (by omega : (0 : Int) < 1) (p' := 0) (by rw [h]; rfl)
    simpa using this
  · intro h; rw [h, Rat.zero_divInt]
theorem fp_den {x y : Int64} {p q : Int} (f : fp_is x y p q) : ∃ m : Int, 0 < m ∧ m < 9223372036854775808 ∧ y = Int64.ofInt m := ⟨_, fr_den_pos p q, f.2.2.2, f.2.1⟩
/-- the parts of a reduced fraction, out of any whole numbers that make it -/
theorem fp_parts {p q : Int} (hq : 0 < q) (bp : p.natAbs < 9223372036854775808) (bq : q < 9223372036854775808) : fp_is (Int64.ofInt p / Int64.ofInt (Int.gcd p q : Int)) (Int64.ofInt q / Int64.ofInt (Int.gcd p q : Int)) p q := by
  have g0 : 0 < Int.gcd p q := Int.gcd_pos_of_ne_zero_right (a := p) (b := q) (by omega)
  have gl : (Int.gcd p q : Int) ≤ q := Int.le_of_dvd hq (Int.gcd_dvd_right (a := p) (b := q))
  have f := fr_pair p hq
  refine fp_mk hq bp bq ?_ ?_
  · rw [lz_div bp (by omega), f.1]
  · rw [lz_div (by omega) (by omega), f.2]
theorem fp_red1 {x y : Int64} {p q : Int} (f : fp_is x y p q) : Int.gcd (Rat.divInt p q).num ((Rat.divInt p q).den : Int) = 1 := (Rat.divInt p q).reduced
theorem fp_prod {p q p' q' : Int} (hq : 0 < q) (hq' : 0 < q') : Rat.divInt ((Rat.divInt p q).num * (Rat.divInt p' q').num) (((Rat.divInt p q).den : Int) * ((Rat.divInt p' q').den : Int)) = Rat.divInt (p * p') (q * q') := by
  obtain ⟨m, hm, e1, e2⟩ := fr_ex p hq
  obtain ⟨m', hm', e1', e2'⟩ := fr_ex p' hq'
  have d := fr_den_pos p q
  have d' := fr_den_pos p' q'
  apply fr_eq (Int.mul_pos d d') (Int.mul_pos hq hq')
  generalize (Rat.divInt p q).num = a at *
  generalize ((Rat.divInt p q).den : Int) = b at *
  generalize (Rat.divInt p' q').num = a' at *
  generalize ((Rat.divInt p' q').den : Int) = b' at *
  subst e1 e2 e1' e2'
  grind
theorem fp_quot {p q p' q' : Int} (hq : 0 < q) (hp' : 0 < p') (hq' : 0 < q') : 0 < (Rat.divInt p' q').num ∧ Rat.divInt ((Rat.divInt p q).num * ((Rat.divInt p' q').den : Int)) (((Rat.divInt p q).den : Int) * (Rat.divInt p' q').num) = Rat.divInt (p * q') (q * p') := by
  obtain ⟨m, hm, e1, e2⟩ := fr_ex p hq
  obtain ⟨m', hm', e1', e2'⟩ := fr_ex p' hq'
  have d := fr_den_pos p q
  have d' := fr_den_pos p' q'
  have n' : 0 < (Rat.divInt p' q').num := by rw [e1'] at hp'; exact Int.pos_of_mul_pos_left hp' hm'
  refine ⟨n', ?_⟩
  apply fr_eq (Int.mul_pos d n') (Int.mul_pos hq hp')
  generalize (Rat.divInt p q).num = a at *
  generalize ((Rat.divInt p q).den : Int) = b at *
  generalize (Rat.divInt p' q').num = a' at *
  generalize ((Rat.divInt p' q').den : Int) = b' at *
  subst e1 e2 e1' e2'
  grind
end
section
/-! balance there and back: numbers along a forest of pairs -/
def rv_e (w : Nat → Nat) (i j : Nat) : Prop := 0 < w (5 * i + j) ∧ 0 < w (5 * j + i)
theorem rv_sym {w : Nat → Nat} {i j : Nat} (h : rv_e w i j) : rv_e w j i := ⟨h.2, h.1⟩
def rv_b (n : Nat) (w : Nat → Nat) (p q : Nat → Int) : Prop := (∀ i, i < n → 0 < p i ∧ 0 < q i) ∧ ∀ i j, i < n → j < n → p i * q j * (w (5 * i + j) : Int) = p j * q i * (w (5 * j + i) : Int)
def rv_L (n : Nat) (w : Nat → Nat) (K : Nat → Prop) (s0 : Nat) : Nat → Nat → Prop := gr_L n (fun j x => rv_e w x j) (fun i => K i ∨ i = s0) (fun _ => False)
def rv_I (n : Nat) (w : Nat → Nat) (K : Nat → Prop) (s0 : Nat) (kn : Nat → Prop) (ov un st : Nat → Nat) : Prop :=
  (∀ i, i < n → kn i → 1 ≤ ov i ∧ ov i ≤ 9 ^ (gr_cnt kn n - 1) ∧ 1 ≤ un i ∧ un i ≤ 9 ^ (gr_cnt kn n - 1) ∧ st i < n) ∧
  (∀ p q, rv_b n w p q → ∀ i, i < n → kn i → p i * (un i : Int) * q (st i) = p (st i) * (ov i : Int) * q i) ∧
  (∀ i j, i < n → j < n → kn i → kn j → rv_e w i j → st i = st j) ∧
  (∀ i, i < n → kn i → K i ∨ st i = s0) ∧
  (∀ i, i < n → kn i → ∃ k, rv_L n w K s0 k i) ∧
  (∀ i, K i → kn i) ∧ kn s0 ∧
  (∀ i j, i < n → j < n → K i → rv_e w i j → K j)
def rv_u {α : Type} (f : Nat → α) (k : Nat) (x : α) : Nat → α := fun j => if j = k then x else f j
theorem rv_us {α : Type} (f : Nat → α) (k : Nat) (x : α) : rv_u f k x k = x := if_pos rfl
theorem rv_un {α : Type} (f : Nat → α) {k j : Nat} (x : α) (h : j ≠ k) : rv_u f k x j = f j := if_neg h
theorem rv_start {n : Nat} {w : Nat → Nat} {K : Nat → Prop} {ov un st : Nat → Nat} {s : Nat} (hs : s < n) (ns : ¬ K s)
    (h1 : ∀ i, i < n → K i → 1 ≤ ov i ∧ ov i ≤ 9 ^ (gr_cnt K n - 1) ∧ 1 ≤ un i ∧ un i ≤ 9 ^ (gr_cnt K n - 1) ∧ st i < n)
    (h2 : ∀ p q, rv_b n w p q → ∀ i, i < n → K i → p i * (un i : Int) * q (st i) = p (st i) * (ov i : Int) * q i)
    (h3 : ∀ i j, i < n → j < n → K i → K j → rv_e w i j → st i = st j)
    (h8 : ∀ i j, i < n → j < n → K i → rv_e w i j → K j) :
    rv_I n w K s (fun i => K i ∨ i = s) (rv_u ov s 1) (rv_u un s 1) (rv_u st s s) := by
  have ne : ∀ i, K i → i ≠ s := fun i hi e => ns (e ▸ hi)
  have mono : gr_cnt K n ≤ gr_cnt (fun i => K i ∨ i = s) n := gr_cnt_mono (fun i _ hi => .inl hi)
  have pw : 9 ^ (gr_cnt K n - 1) ≤ 9 ^ (gr_cnt (fun i => K i ∨ i = s) n - 1) := Nat.pow_le_pow_right (by omega) (by omega)
  have p1 : 1 ≤ 9 ^ (gr_cnt (fun i => K i ∨ i = s) n - 1) := Nat.pow_pos (by omega)
  refine ⟨?_, ?_, ?_, ?_, ?_, fun i hi => .inl hi, .inr rfl, h8⟩
  · intro i hi k
    by_cases e : i = s
    · rw [e, rv_us, rv_us, rv_us]; exact ⟨by omega, p1, by omega, p1, hs⟩
    · rw [rv_un _ _ e, rv_un _ _ e, rv_un _ _ e]
      have k' : K i := k.resolve_right e
      have := h1 i hi k'
      omega
  · intro p q b i hi k
    by_cases e : i = s
    · rw [e, rv_us, rv_us, rv_us]
    · rw [rv_un _ _ e, rv_un _ _ e, rv_un _ _ e]
      exact h2 p q b i hi (k.resolve_right e)
  · intro i j hi hj ki kj e
    by_cases ei : i = s
    · by_cases ej : j = s
      · rw [ei, ej]
      · exact absurd (h8 j i hj hi (kj.resolve_right ej) (rv_sym e)) (by rw [ei]; exact ns)
    · by_cases ej : j = s
      · exact absurd (h8 i j hi hj (ki.resolve_right ei) e) (by rw [ej]; exact ns)
      · rw [rv_un _ _ ei, rv_un _ _ ej]
        exact h3 i j hi hj (ki.resolve_right ei) (kj.resolve_right ej) e
  · intro i _ k
    rcases k with k | e
    · exact .inl k
    · rw [e, rv_us]; exact .inr rfl
  · intro i _ k
    exact ⟨0, k⟩
theorem rv_add {n : Nat} {w : Nat → Nat} (h9 : ∀ k, k < 25 → w k ≤ 9) (hn : n ≤ 5) {K : Nat → Prop} {s0 : Nat} {kn : Nat → Prop} {ov un st : Nat → Nat} (I : rv_I n w K s0 kn ov un st) {i j : Nat} (hi : i < n) (hj : j < n) (ki : kn i) (nj : ¬ kn j) (e : rv_e w i j) :
    rv_I n w K s0 (fun x => kn x ∨ x = j) (rv_u ov j (ov i * w (5 * i + j))) (rv_u un j (un i * w (5 * j + i))) (rv_u st j (st i)) := by
  obtain ⟨a1, a2, a3, a4, a5, a6, a7, a8⟩ := I
  have ne : ∀ x, kn x → x ≠ j := fun x hx q => nj (q ▸ hx)
  have c := gr_cnt_lt (p := kn) (q := fun x => kn x ∨ x = j) (n := n) (fun x _ hx => .inl hx) j hj (.inr rfl) nj
  have c1 := gr_cnt_lt (p := fun _ => False) (q := kn) (n := n) (fun _ _ z => z.elim) i hi ki (fun z => z)
  have pw : 9 ^ (gr_cnt kn n - 1) * 9 ≤ 9 ^ (gr_cnt (fun x => kn x ∨ x = j) n - 1) := by
    rw [← Nat.pow_succ]; exact Nat.pow_le_pow_right (by omega) (by omega)
  have pm : 9 ^ (gr_cnt kn n - 1) ≤ 9 ^ (gr_cnt (fun x => kn x ∨ x = j) n - 1) := Nat.pow_le_pow_right (by omega) (by omega)
  have w1 := h9 (5 * i + j) (by omega)
  have w2 := h9 (5 * j + i) (by omega)
  have e1 := e.1
  have e2 := e.2
  have kj : ¬ K j := fun q => nj (a6 j q)
  have sti : st i = s0 := by
    rcases a4 i hi ki with q | q
    · exact absurd (a8 i j hi hj q e) kj
    · exact q
  have same : ∀ x, x < n → kn x → rv_e w x j → st x = st i := by
    intro x hx kx ex
    rcases a4 x hx kx with q | q
    · exact absurd (a8 x j hx hj q ex) kj
    · rw [q, sti]
  refine ⟨?_, ?_, ?_, ?_, ?_, fun x hx => .inl (a6 x hx), .inl a7, a8⟩
  · intro x hx kx
    by_cases q : x = j
    · rw [q, rv_us, rv_us, rv_us]
      obtain ⟨b1, b2, b3, b4, b5⟩ := a1 i hi ki
      have m1 := Nat.mul_le_mul b2 w1
      have m2 := Nat.mul_le_mul b4 w2
      exact ⟨Nat.mul_pos b1 e1, by omega, Nat.mul_pos b3 e2, by omega, b5⟩
    · rw [rv_un _ _ q, rv_un _ _ q, rv_un _ _ q]
      have := a1 x hx (kx.resolve_right q)
      omega
  · intro p q b x hx kx
    by_cases z : x = j
    · rw [z, rv_us, rv_us, rv_us]
      have f := a2 p q b i hi ki
      have g := b.2 i j hi hj
      have qi := (b.1 i hi).2
      have pi := (b.1 i hi).1
      rw [Int.natCast_mul, Int.natCast_mul]
      have qp := (b.1 j hj).2
      -- q i times both sides agree
      apply ba_cancel qi
      generalize (w (5 * i + j) : Int) = A at *
      generalize (w (5 * j + i) : Int) = B at *
      generalize q (st i) = qs at *
      generalize p (st i) = ps at *
      have t1 : q i * (p j * ((un i : Int) * B) * qs) = (p j * q i * B) * ((un i : Int) * qs) := by grind
      have t2 : q i * (ps * ((ov i : Int) * A) * q j) = (ps * (ov i : Int) * q i) * (A * q j) := by grind
      rw [t1, t2, ← g, ← f]
      grind
    · rw [rv_un _ _ z, rv_un _ _ z, rv_un _ _ z]
      exact a2 p q b x hx (kx.resolve_right z)
  · intro x y hx hy kx ky exy
    by_cases qx : x = j
    · by_cases qy : y = j
      · rw [qx, qy]
      · rw [qx, rv_us, rv_un _ _ qy]
        exact (same y hy (ky.resolve_right qy) (by rw [← qx]; exact rv_sym exy)).symm
    · by_cases qy : y = j
      · rw [qy, rv_us, rv_un _ _ qx]
        exact same x hx (kx.resolve_right qx) (by rw [← qy]; exact exy)
      · rw [rv_un _ _ qx, rv_un _ _ qy]
        exact a3 x y hx hy (kx.resolve_right qx) (ky.resolve_right qy) exy
  · intro x hx kx
    by_cases q : x = j
    · rw [q, rv_us]; exact .inr sti
    · rw [rv_un _ _ q]; exact a4 x hx (kx.resolve_right q)
  · intro x hx kx
    by_cases q : x = j
    · obtain ⟨k, l⟩ := a5 i hi ki
      rw [q]
      exact ⟨k + 1, .inr ⟨fun z => z, i, hi, e, l⟩⟩
    · exact a5 x hx (kx.resolve_right q)
/-- after enough rounds the known states are closed -/
theorem rv_closed {n : Nat} {w : Nat → Nat} {K : Nat → Prop} {s0 : Nat} {kn : Nat → Prop} {ov un st : Nat → Nat} (I : rv_I n w K s0 kn ov un st)
    (all : ∀ i, i < n → rv_L n w K s0 (n - 1) i → kn i) : ∀ i j, i < n → j < n → kn i → rv_e w i j → kn j := by
  intro i j hi hj ki e
  obtain ⟨k, l⟩ := I.2.2.2.2.1 i hi ki
  exact all j hj (gr_L_stab (k + 1) j hj (.inr ⟨fun z => z, i, hi, e, l⟩))
/-- what both classes test in the end -/
theorem rv_fin {n : Nat} {w : Nat → Nat} {ov un st : Nat → Nat}
    (h1 : ∀ i, i < n → 1 ≤ ov i ∧ 1 ≤ un i ∧ st i < n)
    (h2 : ∀ p q, rv_b n w p q → ∀ i, i < n → p i * (un i : Int) * q (st i) = p (st i) * (ov i : Int) * q i)
    (h3 : ∀ i j, i < n → j < n → rv_e w i j → st i = st j) {p q : Nat → Int} (b : rv_b n w p q) {i j : Nat} (hi : i < n) (hj : j < n) :
    (w (5 * i + j) = 0 ∧ w (5 * j + i) = 0) ∨ (st i = st j ∧ (ov i : Int) * (un j : Int) * (w (5 * i + j) : Int) = (ov j : Int) * (un i : Int) * (w (5 * j + i) : Int)) := by
  have g := b.2 i j hi hj
  obtain ⟨pi, qi⟩ := b.1 i hi
  obtain ⟨pj, qj⟩ := b.1 j hj
  rcases Nat.eq_zero_or_pos (w (5 * i + j)) with z | z
  · left
    rw [z] at g
    have g' : p j * q i * (w (5 * j + i) : Int) = 0 := by simpa using g.symm
    have := Int.mul_pos pj qi
    rcases Int.mul_eq_zero.mp g' with y | y
    · omega
    · exact ⟨z, by omega⟩
  · rcases Nat.eq_zero_or_pos (w (5 * j + i)) with y | y
    · exfalso
      rw [y] at g
      have g' : p i * q j * (w (5 * i + j) : Int) = 0 := by simpa using g
      have := Int.mul_pos pi qj
      rcases Int.mul_eq_zero.mp g' with x | x <;> omega
    · right
      have es := h3 i j hi hj ⟨z, y⟩
      refine ⟨es, ?_⟩
      have fi := h2 p q b i hi
      have fj := h2 p q b j hj
      rw [← es] at fj
      obtain ⟨ps, qs⟩ := b.1 (st i) (h1 i hi).2.2
      generalize q (st i) = Q at *
      generalize p (st i) = P at *
      generalize (w (5 * i + j) : Int) = A at *
      generalize (w (5 * j + i) : Int) = B at *
      generalize (ov i : Int) = oi at *
      generalize (ov j : Int) = oj at *
      generalize (un i : Int) = ui at *
      generalize (un j : Int) = uj at *
      have pos : 0 < P * (q i * q j) := Int.mul_pos ps (Int.mul_pos qi qj)
      apply ba_cancel pos
      have t1 : P * (q i * q j) * (oi * uj * A) = (P * oi * q i) * (uj * q j * A) := by grind
      have t2 : P * (q i * q j) * (oj * ui * B) = (P * oj * q j) * (ui * q i * B) := by grind
      rw [t1, t2, ← fi, ← fj]
      have t3 : p i * ui * Q * (uj * q j * A) = (p i * q j * A) * (ui * uj * Q) := by grind
      rw [t3, g]
      grind
end
section
/-! the chance to come to a state of a closed set of states is the chance to come to the set -/
theorem sv_H_G {n : Nat} {w : Nat → Nat} {U G : Nat → Bool} {s : Nat} (u : U s = false) (g : G s = true) : sv_H n w U G s = sv_D n w U := by
  unfold sv_H; simp [u, g]
theorem sv_H_0 {n : Nat} {w : Nat → Nat} {U G : Nat → Bool} {s : Nat} (u : U s = false) (g : G s = false) : sv_H n w U G s = 0 := by
  unfold sv_H; simp [u, g]
theorem sv_in_class {n : Nat} {w : Nat → Nat} (ok : ch_ok n w) {U C : Nat → Bool} {j : Nat} (hj : j < n) (r : sv_rank n w U) (uj : U j = false)
    (hC : ∀ s, s < n → C s = true → s ≠ j → U s = true) (cl : ∀ s c, s < n → c < n → C s = true → 0 < ch_sw w s c → C c = true) {s : Nat} (hs : s < n) (cs : C s = true) :
    sv_H n w U (fun s => decide (s = j)) s = sv_D n w U := by
  by_cases e : s = j
  · exact sv_H_G (by rw [e]; exact uj) (by simp [e])
  · have us := hC s hs cs e
    let V : Nat → Bool := fun s => (C s && decide (s < n)) && !(decide (s = j))
    have hV : ∀ s, V s = true ↔ (C s = true ∧ s < n ∧ s ≠ j) := fun s => by simp [V, and_assoc]
    have sub : ∀ s, V s = true → U s = true := fun s h => hC s ((hV s).mp h).2.1 ((hV s).mp h).1 ((hV s).mp h).2.2
    have hU := sv_of ok r
    have hv := sv_of ok (sv_rank_sub r sub)
    have vs : V s = true := (hV s).mpr ⟨cs, hs, e⟩
    have a := sv_restrict hU hv sub (by
      intro t ht vt c hc uc nc
      rcases Nat.eq_zero_or_pos (ch_sw w t c) with z | z
      · exact z
      · exfalso
        have := cl t c ht hc ((hV t).mp vt).1 z
        have cj : c ≠ j := fun q => by rw [q, uj] at uc; cases uc
        rw [(hV c).mpr ⟨this, hc, cj⟩] at nc
        cases nc) (sv_v n w (fun s => decide (s = j))) hs vs
    have b := sv_uniq hv (sv_v n w (fun s => decide (s = j))) (fun _ => 1) 1 (by
      intro t ht vt
      rw [sv_row ht vt, ← ch_sum ok ht]
      have q : ba_S (fun c => (ch_sw w t c : Int)) n = ba_S (fun c => (if V c = true then (ch_sw w t c : Int) * 1 else 0) + (if decide (c = j) = true then (ch_sw w t c : Int) else 0)) n := by
        apply ba_S_congr
        intro c hc
        by_cases vc : V c = true
        · have := ((hV c).mp vc).2.2
          simp [vc, this]
        · by_cases cj : c = j
          · rw [if_neg vc]; simp [cj]
          · have z : ch_sw w t c = 0 := by
              rcases Nat.eq_zero_or_pos (ch_sw w t c) with z | z
              · exact z
              · exact absurd ((hV c).mpr ⟨cl t c ht hc ((hV t).mp vt).1 z, hc, cj⟩) vc
            simp [vc, cj, z]
      have e9 : sv_v n w (fun s => decide (s = j)) t = ba_S (fun c => if decide (c = j) = true then (ch_sw w t c : Int) else 0) n := rfl
      rw [q, ba_S_add, e9]
      omega) hs vs
    have d := sv_pos hv
    have f : sv_H n w U (fun s => decide (s = j)) s = sv_F n w U s (sv_v n w (fun s => decide (s = j))) := by unfold sv_H; rw [if_pos us]
    rw [f]
    apply ba_cancel d
    rw [Int.mul_comm, a]
    have : sv_D n w V = sv_F n w V s (sv_v n w (fun s => decide (s = j))) := by omega
    rw [← this]
    exact Int.mul_comm _ _
theorem sv_share {n : Nat} {w : Nat → Nat} (ok : ch_ok n w) {U C V : Nat → Bool} {j : Nat} (hj : j < n) (r : sv_rank n w U) (uj : U j = false) (cj : C j = true)
    (hC : ∀ s, s < n → C s = true → s ≠ j → U s = true) (cl : ∀ s c, s < n → c < n → C s = true → 0 < ch_sw w s c → C c = true)
    (hV : ∀ s, V s = true ↔ (U s = true ∧ C s = false)) {i : Nat} (hi : i < n) :
    sv_H n w U (fun s => decide (s = j)) i * sv_D n w V = sv_H n w V C i * sv_D n w U := by
  have hU := sv_of ok r
  have hv := sv_of ok (sv_rank_sub r (fun s h => ((hV s).mp h).1))
  have dis : ∀ s, s < n → U s = true → (fun s => decide (s = j)) s = false := fun s _ us => by
    have : s ≠ j := fun q => by rw [q, uj] at us; cases us
    simpa using this
  by_cases ci : C i = true
  · rw [sv_in_class ok hj r uj hC cl hi ci, sv_H_G (by cases e : V i with | false => rfl | true => rw [((hV i).mp e).2] at ci; cases ci) ci]
    exact Int.mul_comm _ _
  · have ci' : C i = false := by simpa using ci
    have ij : i ≠ j := fun q => ci (q ▸ cj)
    by_cases ui : U i = true
    · have vi : V i = true := (hV i).mpr ⟨ui, ci'⟩
      have a := sv_uniq hv (sv_v n w C) (fun c => sv_H n w U (fun s => decide (s = j)) c) (sv_D n w U) (by
        intro s hs vs
        rw [sv_row hs vs, sv_harm hU dis hs ((hV s).mp vs).1]
        have q : ba_S (fun c => (ch_sw w s c : Int) * sv_H n w U (fun s => decide (s = j)) c) n = ba_S (fun c => (if V c = true then (ch_sw w s c : Int) * sv_H n w U (fun s => decide (s = j)) c else 0) + sv_D n w U * (if C c = true then (ch_sw w s c : Int) else 0)) n := by
          apply ba_S_congr
          intro c hc
          by_cases cc : C c = true
          · have vc : ¬ V c = true := fun q => by rw [((hV c).mp q).2] at cc; cases cc
            rw [if_neg vc, if_pos cc, sv_in_class ok hj r uj hC cl hc cc]
            grind
          · have cc' : C c = false := by simpa using cc
            by_cases uc : U c = true
            · rw [if_pos ((hV c).mpr ⟨uc, cc'⟩), if_neg cc]; grind
            · have vc : ¬ V c = true := fun q => uc ((hV c).mp q).1
              have cj' : c ≠ j := fun q => cc (q ▸ cj)
              rw [if_neg vc, if_neg cc, sv_H_0 (by simpa using uc) (by simpa using cj')]
              simp
        rw [q, ba_S_add, ba_S_mul]
        unfold sv_v
        omega) hi vi
      have f : sv_H n w V C i = sv_F n w V i (sv_v n w C) := by unfold sv_H; rw [if_pos vi]
      rw [f]
      rw [a]
      exact Int.mul_comm _ _
    · have vi : V i = false := by
        cases e : V i with
        | false => rfl
        | true => exact absurd ((hV i).mp e).1 ui
      rw [sv_H_0 (by simpa using ui) (by simpa using ij), sv_H_0 vi ci']
      simp
end
section
/-! indices, states, sets: the small methods of the component -/
theorem ix_5 (i j : Nat) : nI i * 5 + nI j = nI (5 * i + j) := by
  show nI i * nI 5 + nI j = _
  rw [pk_mul, nI_add, Nat.mul_comm]
theorem ix_5' (i j : Nat) : 5 * nI i + nI j = nI (5 * i + j) := by
  show nI 5 * nI i + nI j = _
  rw [pk_mul, nI_add]
theorem ix_6 (i j : Nat) : nI i * 6 + nI j = nI (6 * i + j) := by
  show nI i * nI 6 + nI j = _
  rw [pk_mul, nI_add, Nat.mul_comm]
theorem ix_6' (i j : Nat) : 6 * nI i + nI j = nI (6 * i + j) := by
  show nI 6 * nI i + nI j = _
  rw [pk_mul, nI_add]
def cr_X (n : Nat) (w : Nat → Nat) (a su : Nat → Int32) : Prop := ch_ok n w ∧ (∀ k, k < 25 → a k = nI (w k)) ∧ ∀ i, i < 5 → su i = nI (ch_W w i)
def cr_Y (n : Nat) (w : Nat → Nat) (a : Nat → Int32) : Prop := ch_ok n w ∧ ∀ k, k < 25 → a k = nI (w k)
theorem cr_XY {n : Nat} {w : Nat → Nat} {a su : Nat → Int32} (h : cr_X n w a su) : cr_Y n w a := ⟨h.1, h.2.1⟩
theorem cw_0 {k : Nat} (h : k < 2 ^ 31) : nI k = 0 ↔ k = 0 := by
  rw [← nI_0]; exact nI_eq h (by decide)
theorem cw_le0 {k : Nat} (h : k < 2 ^ 31) : nI k ≤ 0 ↔ k = 0 := by
  rw [← nI_0, nI_leI h (by decide)]; omega
section
variable {n : Nat} {w : Nat → Nat} {a su : Nat → Int32} {sy ov un : Nat → Int64}
theorem xm_st1 {post : Int32 → Prop} {i : Nat} (hn : n ≤ 5) (hi : i < n) (hp : post 1) : wpX_isState post (nI n, a, su, sy, ov, un) (nI i) :=
  br_f (nI_pos (by omega)) (br_f (nI_ge hi (by omega)) hp)
theorem xm_st0 {post : Int32 → Prop} {x : Int32} (hn : n ≤ 5) (hx : ¬ ∃ i, i < n ∧ x = nI i) (hp : post 0) : wpX_isState post (nI n, a, su, sy, ov, un) x := by
  rcases pk_ix x (n := n) (by omega) with h | h | h
  · exact br_t h hp
  · by_cases z : x < 0
    · exact br_t z hp
    · exact br_f z (br_t h hp)
  · exact absurd h hx
theorem xm_has {post : Int32 → Prop} {m i : Nat} (hm : m < 32) (hi : i < 5) (h1 : m.testBit i = true → post 1) (h0 : m.testBit i = false → post 0) : wpX_has post (nI m) (nI i) := by
  have e := bm_bit m hm i hi
  unfold wpX_has
  rw [e]
  cases b : m.testBit i
  · exact br_t (by simp) (h0 b)
  · exact br_f (by simp) (h1 b)
theorem xm_sw {post : Int32 → Prop} (c : cr_X n w a su) {i j : Nat} (hi : i < 5) (hj : j < 5) (hp : post (nI (ch_sw w i j))) : wpX_stepWeight post (nI n, a, su, sy, ov, un) (nI i) (nI j) := by
  have e1 : (nI i).toNatClampNeg = i := nI_clamp (by omega)
  have e2 : (nI i * 5 + nI j).toNatClampNeg = 5 * i + j := by rw [ix_5]; exact nI_clamp (by omega)
  have W := ch_W_le c.1 hi
  unfold wpX_stepWeight
  dsimp only
  refine ⟨vp_in_nI hi (by omega), ?_⟩
  rw [e1, e2, c.2.2 i hi, c.2.1 _ (by omega), ix_5]
  by_cases z : ch_W w i = 0
  · refine br_t (by rw [z]; rfl) ?_
    by_cases q : i = j
    · refine br_t (by rw [q]) ?_
      rw [show ch_sw w i j = 1 by unfold ch_sw; rw [if_pos z, if_pos q]] at hp
      exact hp
    · refine br_f (fun h => q ((nI_eq (by omega) (by omega)).mp h)) ?_
      rw [show ch_sw w i j = 0 by simp [ch_sw, z, q]] at hp
      exact hp
  · refine br_f (fun h => z ((cw_0 (by omega)).mp h)) ⟨vp_in_nI (by omega) (by omega), ?_⟩
    rw [show ch_sw w i j = w (5 * i + j) by simp [ch_sw, z]] at hp
    exact hp
theorem xm_tot {post : Int32 → Prop} (c : cr_X n w a su) {i : Nat} (hi : i < 5) (hp : post (nI (ch_tot w i))) : wpX_stepTotal post (nI n, a, su, sy, ov, un) (nI i) := by
  have e1 : (nI i).toNatClampNeg = i := nI_clamp (by omega)
  have W := ch_W_le c.1 hi
  unfold wpX_stepTotal
  dsimp only
  refine ⟨vp_in_nI hi (by omega), ?_⟩
  rw [e1, c.2.2 i hi]
  by_cases z : ch_W w i = 0
  · refine br_t (by rw [z]; rfl) ?_
    rw [show ch_tot w i = 1 by simp [ch_tot, z]] at hp
    exact hp
  · refine br_f (fun h => z ((cw_0 (by omega)).mp h)) ⟨vp_in_nI hi (by omega), ?_⟩
    rw [show ch_tot w i = ch_W w i by simp [ch_tot, z]] at hp
    exact hp
/-- one step on from a set -/
theorem xm_one {post : Int32 → Prop} (c : cr_X n w a su) {m m' : Nat} (hm : m < 32) (h' : bm_is n m' (fun j => ∃ i, i < n ∧ m.testBit i = true ∧ 0 < ch_sw w i j)) (hp : post (nI m')) : wpX_oneStepFrom post (nI n, a, su, sy, ov, un) (nI m) := by
  have h5 := c.1.2.1
  refine loop_0 (fun f i (s : Int32) => wX_oneStepFrom_4 post (nI m) (nI n) a su sy ov un f s (nI i)) (fun i s => ∃ acc, s = nI acc ∧ bm_is n acc (fun j => ∃ x, x < i ∧ m.testBit x = true ∧ 0 < ch_sw w x j)) n 0 ?_ ?_ ?_
  · exact ⟨0, rfl, bm_iff (bm_zero n) (fun j _ => ⟨fun z => z.elim, fun ⟨x, hx, _⟩ => by omega⟩)⟩
  · rintro f s ⟨acc, rfl, ha⟩
    refine br_t (nI_le (Nat.le_refl n) (by omega)) ?_
    rw [bm_ext ha h' (fun _ _ => Iff.rfl)]
    exact hp
  · rintro f i s hi ⟨acc, rfl, ha⟩ ih
    refine br_f (nI_ge hi (by omega)) ?_
    refine loop_0 (fun g j (s : Int32) => wX_oneStepFrom_15 post (wX_oneStepFrom_4 post (nI m) (nI n) a su sy ov un f) (nI m) (nI i) (nI n) a su sy ov un g s (nI j)) (fun j s => ∃ acc, s = nI acc ∧ bm_is n acc (fun y => (∃ x, x < i ∧ m.testBit x = true ∧ 0 < ch_sw w x y) ∨ (y < j ∧ m.testBit i = true ∧ 0 < ch_sw w i y))) n (nI acc) ?_ ?_ ?_
    · exact ⟨acc, rfl, bm_iff ha (fun y _ => ⟨fun z => .inl z, fun z => z.elim id (fun q => absurd q.1 (by omega))⟩)⟩
    · rintro g s ⟨acc, rfl, ha⟩
      refine br_t (nI_le (Nat.le_refl n) (by omega)) (nm_r (nI_1 i) (ih _ ⟨acc, rfl, bm_iff ha (fun y hy => ?_)⟩))
      constructor
      · rintro (⟨x, hx, q⟩ | ⟨_, q⟩)
        · exact ⟨x, by omega, q⟩
        · exact ⟨i, by omega, q⟩
      · rintro ⟨x, hx, q⟩
        by_cases e : x = i
        · rw [e] at q; exact .inr ⟨hy, q⟩
        · exact .inl ⟨x, by omega, q⟩
    · rintro g j s hj ⟨acc, rfl, ha⟩ ih2
      refine br_f (nI_ge hj (by omega)) ?_
      refine xm_has hm (by omega) (fun b => ?_) (fun b => ?_)
      · refine br_f (by decide) ?_
        refine xm_sw c (by omega) (by omega) ?_
        have sl := ch_sw_le c.1 (i := i) (j := j) (by omega) (by omega)
        rcases Nat.eq_zero_or_pos (ch_sw w i j) with z | z
        · refine br_t ((cw_le0 (by omega)).mpr z) (nm_r (nI_1 j) (ih2 _ ⟨acc, rfl, bm_iff ha (fun y hy => ?_)⟩))
          constructor
          · rintro (q | ⟨q, r⟩)
            · exact .inl q
            · exact .inr ⟨by omega, r⟩
          · rintro (q | ⟨q, r⟩)
            · exact .inl q
            · have : y ≠ j := fun e => by rw [e] at r; omega
              exact .inr ⟨by omega, r⟩
        · refine br_f (fun h => by have := (cw_le0 (by omega)).mp h; omega) ?_
          rw [bm_shl j (by omega), bm_or]
          refine nm_e (nm_r (nI_1 j) (ih2 _ ⟨_, rfl, bm_iff (bm_or2 ha (bm_one hj)) (fun y hy => ?_)⟩))
          constructor
          · rintro ((q | ⟨q, r⟩) | q)
            · exact .inl q
            · exact .inr ⟨by omega, r⟩
            · rw [q]; exact .inr ⟨by omega, b, z⟩
          · rintro (q | ⟨q, r⟩)
            · exact .inl (.inl q)
            · by_cases e : y = j
              · exact .inr e
              · exact .inl (.inr ⟨by omega, r⟩)
      · refine br_t rfl (nm_r (nI_1 j) (ih2 _ ⟨acc, rfl, bm_iff ha (fun y hy => ?_)⟩))
        constructor
        · rintro (q | ⟨q, r⟩)
          · exact .inl q
          · exact .inr ⟨by omega, r⟩
        · rintro (q | ⟨q, r⟩)
          · exact .inl q
          · rw [b] at r; exact absurd r.1 (by decide)
theorem bm_exists (n : Nat) (p : Nat → Prop) : ∃ m, bm_is n m p := by
  induction n with
  | zero => exact ⟨0, by decide, fun i hi => absurd hi (by omega)⟩
  | succ n ih =>
    obtain ⟨m, h1, h2⟩ := ih
    have up : bm_is (n + 1) m (fun i => i < n ∧ p i) := by
      refine ⟨by rw [Nat.pow_succ]; omega, fun i hi => ?_⟩
      rcases Nat.lt_or_ge i n with q | q
      · rw [h2 i q]; exact ⟨fun x => ⟨q, x⟩, fun x => x.2⟩
      · rw [bm_hi h1 q]; exact ⟨fun x => absurd x (by decide), fun x => by omega⟩
    by_cases z : p n
    · refine ⟨m ||| 2 ^ n, bm_iff (bm_or2 up (bm_one (Nat.lt_succ_self n))) (fun i hi => ⟨?_, ?_⟩)⟩
      · rintro (q | q)
        · exact q.2
        · rw [q]; exact z
      · intro q
        by_cases e : i = n
        · exact .inr e
        · exact .inl ⟨by omega, q⟩
    · refine ⟨m, bm_iff up (fun i hi => ⟨fun q => q.2, fun q => ⟨?_, q⟩⟩)⟩
      have : i ≠ n := fun e => z (e ▸ q)
      omega
/-- the states to which one can go -/
theorem xm_reached {post : Int32 → Prop} (c : cr_X n w a su) {i m' : Nat} (hi : i < n) (h' : bm_is n m' (gr_R n (fun x y => 0 < ch_sw w x y) (fun _ => False) i (n - 1))) (hp : post (nI m')) : wpX_reachedFrom post (nI n, a, su, sy, ov, un) (nI i) := by
  have h5 := c.1.2.1
  refine nm_r (bm_shl i (by omega)) ?_
  refine pk_loop (fun f k (s : Int32) => wX_reachedFrom_6 post (nI n) a su sy ov un f s (nI k)) (fun k s => 1 ≤ k ∧ ∃ acc, s = nI acc ∧ bm_is n acc (gr_R n (fun x y => 0 < ch_sw w x y) (fun _ => False) i (k - 1))) n 1 (nI (2 ^ i)) (by omega) ?_ ?_ ?_
  · exact ⟨by omega, _, rfl, bm_one hi⟩
  · rintro f s ⟨_, acc, rfl, ha⟩
    refine br_t (nI_le (Nat.le_refl n) (by omega)) ?_
    rw [bm_ext ha h' (fun _ _ => Iff.rfl)]
    exact hp
  · rintro f k s hk ⟨k1, acc, rfl, ha⟩ ih
    refine br_f (nI_ge hk (by omega)) ?_
    obtain ⟨m, hm⟩ := bm_exists n (fun j => ∃ x, x < n ∧ acc.testBit x = true ∧ 0 < ch_sw w x j)
    refine xm_one c (bm_lt ha h5) hm ?_
    rw [bm_or]
    refine nm_e (nm_r (nI_1 k) (ih _ ⟨by omega, _, rfl, ?_⟩))
    rw [show k + 1 - 1 = (k - 1) + 1 by omega]
    refine bm_iff (bm_or2 ha hm) (fun y hy => ?_)
    constructor
    · rintro (q | ⟨x, hx, q, e⟩)
      · exact .inl q
      · exact .inr ⟨hy, x, hx, (ha.2 x hx).mp q, fun z => z, e⟩
    · rintro (q | ⟨_, x, hx, q, _, e⟩)
      · exact .inl q
      · exact .inr ⟨x, hx, (ha.2 x hx).mpr q, e⟩
end
end
section
/-! the states that lead to a goal -/
section
variable {n : Nat} {w : Nat → Nat} {a su : Nat → Int32} {sy ov un : Nat → Int64}
theorem xm_lead {post : Int32 → Prop} (c : cr_X n w a su) {g b m' : Nat} {G B : Nat → Prop} (hg : bm_is n g G) (hb : bm_is n b B)
    (h' : bm_is n m' (fun i => gr_L n (fun x y => 0 < ch_sw w x y) G B (n - 1) i ∧ ¬ G i)) (hp : post (nI m')) : wpX_leadingTo post (nI n, a, su, sy, ov, un) (nI g) (nI b) := by
  have h5 := c.1.2.1
  have h1 := c.1.1
  refine pk_loop (fun f k (s : Int32) => wX_leadingTo_5 post (nI g) (nI b) (nI n) a su sy ov un f s (nI k))
    (fun k s => 1 ≤ k ∧ ∃ acc, s = nI acc ∧ acc < 2 ^ n ∧ (∀ i, i < n → acc.testBit i = true → ∃ m, gr_L n (fun x y => 0 < ch_sw w x y) G B m i) ∧ ∀ i, i < n → gr_L n (fun x y => 0 < ch_sw w x y) G B (k - 1) i → acc.testBit i = true) n 1 (nI g) (by omega) ?_ ?_ ?_
  · exact ⟨by omega, g, rfl, hg.1, fun i hi t => ⟨0, (hg.2 i hi).mp t⟩, fun i hi l => (hg.2 i hi).mpr l⟩
  · rintro f s ⟨_, acc, rfl, hl, so, co⟩
    refine br_t (nI_le (Nat.le_refl n) (by omega)) ?_
    have ha : bm_is n acc (gr_L n (fun x y => 0 < ch_sw w x y) G B (n - 1)) := by
      refine ⟨hl, fun i hi => ⟨fun t => ?_, co i hi⟩⟩
      obtain ⟨m, l⟩ := so i hi t
      exact gr_L_stab m i hi l
    rw [bm_not acc (bm_lt ha h5) g (bm_lt hg h5), bm_ext (bm_diff h5 ha hg) h' (fun _ _ => Iff.rfl)]
    exact hp
  · rintro f k s hk ⟨k1, acc, rfl, hl, so, co⟩ ih
    refine br_f (nI_ge hk (by omega)) ?_
    refine loop_0 (fun h i (s : Int32) => wX_leadingTo_17 post (wX_leadingTo_5 post (nI g) (nI b) (nI n) a su sy ov un f) (nI g) (nI b) (nI k) (nI n) a su sy ov un h s (nI i))
      (fun i s => ∃ ac, s = nI ac ∧ ac < 2 ^ n ∧ (∀ x, acc.testBit x = true → ac.testBit x = true) ∧ (∀ i, i < n → ac.testBit i = true → ∃ m, gr_L n (fun x y => 0 < ch_sw w x y) G B m i) ∧ ∀ x, x < i → gr_L n (fun x y => 0 < ch_sw w x y) G B k x → ac.testBit x = true) n (nI acc) ?_ ?_ ?_
    · exact ⟨acc, rfl, hl, fun _ t => t, so, fun x hx => absurd hx (by omega)⟩
    · rintro h s ⟨ac, rfl, hl2, _, so2, co2⟩
      exact br_t (nI_le (Nat.le_refl n) (by omega)) (nm_r (nI_1 k) (ih _ ⟨by omega, ac, rfl, hl2, so2, fun i hi l => co2 i hi (by rwa [show k + 1 - 1 = k by omega] at l)⟩))
    · rintro h i s hi ⟨ac, rfl, hl2, sub, so2, co2⟩ ih2
      refine br_f (nI_ge hi (by omega)) ?_
      rw [bm_shl i (by omega)]
      obtain ⟨m, hm⟩ := bm_exists n (fun j => ∃ x, x < n ∧ (2 ^ i).testBit x = true ∧ 0 < ch_sw w x j)
      have hm2 : bm_is n m (fun j => 0 < ch_sw w i j) := bm_iff hm (fun j _ => ⟨fun ⟨x, hx, t, q⟩ => by
        have : x = i := ((bm_one hi).2 x hx).mp t
        rw [this] at q; exact q, fun q => ⟨i, hi, ((bm_one hi).2 i hi).mpr rfl, q⟩⟩)
      have hac : bm_is n ac (fun j => ac.testBit j = true) := ⟨hl2, fun _ _ => Iff.rfl⟩
      have i32 : 2 ^ i < 32 := bm_lt (bm_one hi) h5
      obtain ⟨k', hk'⟩ : ∃ k', k = k' + 1 := ⟨k - 1, by omega⟩
      refine xm_one c i32 hm ?_
      refine xm_has (bm_lt hb h5) (by omega) (fun t => ?_) (fun t => ?_)
      · refine br_f (by decide) (nm_r (nI_1 i) (ih2 _ ⟨ac, rfl, hl2, sub, so2, fun x hx l => ?_⟩))
        by_cases e : x = i
        · subst e
          rw [hk'] at l
          rcases l with l | ⟨nb, _⟩
          · exact sub x (co x hi (by rwa [hk']))
          · exact absurd ((hb.2 x hi).mp t) nb
        · exact co2 x (by omega) l
      · have nb : ¬ B i := fun z => by rw [(hb.2 i hi).mpr z] at t; cases t
        refine br_t rfl ?_
        rw [bm_and, bm_or]
        have ma := bm_and2 hm2 hac
        by_cases z : m &&& ac = 0
        · refine br_t (by rw [z]; rfl) (nm_r (nI_1 i) (ih2 _ ⟨ac, rfl, hl2, sub, so2, fun x hx l => ?_⟩))
          by_cases e : x = i
          · subst e
            rw [hk'] at l
            rcases l with l | ⟨_, j, hj, q, l⟩
            · exact sub x (co x hi (by rwa [hk']))
            · exfalso
              have := (bm_ne0 ma).mpr ⟨j, hj, q, sub j (co j hj (by rwa [hk']))⟩
              exact this z
          · exact co2 x (by omega) l
        · have lt : m &&& ac < 2 ^ 31 := Nat.lt_trans (bm_lt ma h5) (by omega)
          refine br_f (fun q => z ((cw_0 lt).mp q)) (nm_e (nm_r (nI_1 i) (ih2 _ ⟨_, rfl, (bm_or2 hac (bm_one hi)).1, fun x hx => ?_, fun x hx q => ?_, fun x hx l => ?_⟩)))
          · rw [Nat.testBit_or, sub x hx]; rfl
          · rcases ((bm_or2 hac (bm_one hi)).2 x hx).mp q with q | q
            · exact so2 x hx q
            · obtain ⟨j, hj, q1, q2⟩ := (bm_ne0 ma).mp z
              obtain ⟨m, l⟩ := so2 j hj q2
              exact ⟨m + 1, .inr ⟨by rw [q]; exact nb, j, hj, by rw [q]; exact q1, l⟩⟩
          · by_cases e : x = i
            · rw [e]; exact ((bm_or2 hac (bm_one hi)).2 i hi).mpr (.inr rfl)
            · rw [Nat.testBit_or, co2 x (by omega) l]; rfl
/-- whether the states that go to and fro with a state are closed -/
def gr_cl (n : Nat) (w : Nat → Nat) (i : Nat) : Prop := ∀ j, j < n → gr_R n (fun x y => 0 < ch_sw w x y) (fun _ => False) i (n - 1) j → gr_L n (fun x y => 0 < ch_sw w x y) (fun y => y = i) (fun _ => False) (n - 1) j
theorem xm_closed {post : Int32 → Prop} (c : cr_X n w a su) {i : Nat} (hi : i < n) (h1 : gr_cl n w i → post 1) (h0 : ¬ gr_cl n w i → post 0) : wpX_isInClosedClass post (nI n, a, su, sy, ov, un) (nI i) := by
  have h5 := c.1.2.1
  obtain ⟨m, hm⟩ := bm_exists n (gr_R n (fun x y => 0 < ch_sw w x y) (fun _ => False) i (n - 1))
  obtain ⟨l, hl⟩ := bm_exists n (fun j => gr_L n (fun x y => 0 < ch_sw w x y) (fun y => y = i) (fun _ => False) (n - 1) j ∧ ¬ j = i)
  refine nm_r (bm_shl i (by omega)) ?_
  refine xm_reached c hi hm ?_
  have o1 := bm_one hi
  have d1 := bm_diff h5 hm o1
  have d2 := bm_diff h5 d1 hl
  rw [bm_not m (bm_lt hm h5) _ (bm_lt o1 h5)]
  refine nm_e (xm_lead (b := 0) c o1 (bm_zero n) hl ?_)
  rw [bm_not _ (bm_lt d1 h5) l (bm_lt hl h5)]
  have lt := bm_lt d2 h5
  have key : gr_cl n w i ↔ ¬ ∃ j, j < n ∧ (gr_R n (fun x y => 0 < ch_sw w x y) (fun _ => False) i (n - 1) j ∧ ¬ j = i) ∧ ¬ (gr_L n (fun x y => 0 < ch_sw w x y) (fun y => y = i) (fun _ => False) (n - 1) j ∧ ¬ j = i) := by
    constructor
    · rintro h ⟨j, hj, ⟨r, e⟩, no⟩
      exact no ⟨h j hj r, e⟩
    · intro h j hj r
      by_cases e : j = i
      · rw [e]; exact gr_L_up (Nat.zero_le _) (show gr_L n _ _ _ 0 i from rfl)
      · apply Classical.byContradiction
        intro no
        exact h ⟨j, hj, ⟨r, e⟩, fun q => no q.1⟩
  by_cases z : (m &&& (31 ^^^ 2 ^ i)) &&& (31 ^^^ l) = 0
  · refine br_t (by rw [z]; rfl) (h1 (key.mpr (fun q => ?_)))
    exact (bm_ne0 d2).mpr q z
  · refine br_f (fun q => z ((cw_0 (by omega)).mp q)) (h0 (fun q => ?_))
    exact key.mp q ((bm_ne0 d2).mp z)
end
end
section
/-! the small methods of the reference -/
def cw_p (w : Nat → Nat) (i : Nat) : Nat → Nat
  | 0 => 0
  | j + 1 => cw_p w i j + w (5 * i + j)
theorem cw_p5 (w : Nat → Nat) (i : Nat) : cw_p w i 5 = ch_W w i := by
  simp only [cw_p, ch_W, Nat.add_zero, Nat.zero_add]
section
variable {n : Nat} {w : Nat → Nat} {a : Nat → Int32} {fa fb : Int64} {up dn : Nat → Int64} {op : Nat → Int32} {tp bt nt nb : Nat → Int64}
theorem ym_st1 {post : Int32 → Prop} {i : Nat} (hn : n ≤ 5) (hi : i < n) (hp : post 1) : wpY_isState post (nI n, fa, fb, a, up, dn, op, tp, bt, nt, nb) (nI i) :=
  br_f (nI_pos (by omega)) (br_f (nI_ge hi (by omega)) hp)
theorem ym_st0 {post : Int32 → Prop} {x : Int32} (hn : n ≤ 5) (hx : ¬ ∃ i, i < n ∧ x = nI i) (hp : post 0) : wpY_isState post (nI n, fa, fb, a, up, dn, op, tp, bt, nt, nb) x := by
  rcases pk_ix x (n := n) (by omega) with h | h | h
  · exact br_t h hp
  · by_cases z : x < 0
    · exact br_t z hp
    · exact br_f z (br_t h hp)
  · exact absurd h hx
theorem ym_in {post : Int32 → Prop} {m i : Nat} (hm : m < 32) (hi : i < 5) (h1 : m.testBit i = true → post 1) (h0 : m.testBit i = false → post 0) : wpY_in post (nI n, fa, fb, a, up, dn, op, tp, bt, nt, nb) (nI m) (nI i) := by
  have e := bm_bit m hm i hi
  unfold wpY_in
  dsimp only
  rw [e]
  cases b : m.testBit i
  · exact br_f (by simp) (h0 b)
  · exact br_t (by simp) (h1 b)
theorem ym_all {post : Int32 → Prop} (c : cr_Y n w a) {i : Nat} (hi : i < 5) (hp : post (nI (ch_W w i))) : wpY_all post (nI n, fa, fb, a, up, dn, op, tp, bt, nt, nb) (nI i) := by
  refine loop_0 (fun f j (s : Int32) => wY_all_4 post (nI i) (nI n) fa fb a up dn op tp bt nt nb f s (nI j)) (fun j s => s = nI (cw_p w i j)) 5 0 rfl ?_ ?_
  · rintro f s rfl
    refine br_t (by decide) ?_
    rw [cw_p5]; exact hp
  · rintro f j s hj rfl ih
    refine br_f (nI_ge (b := 5) hj (by decide)) ?_
    rw [ix_5', nI_clamp (by omega : 5 * i + j < 2 ^ 31), c.2 _ (by omega)]
    exact ⟨vp_in_nI (by omega) (by decide), nm_r (nI_add _ _) (nm_r (nI_1 j) (ih _ rfl))⟩
theorem ym_sw {post : Int32 → Prop} (c : cr_Y n w a) {i j : Nat} (hi : i < 5) (hj : j < 5) (hp : post (nI (ch_sw w i j))) : wpY_weight post (nI n, fa, fb, a, up, dn, op, tp, bt, nt, nb) (nI i) (nI j) := by
  have W := ch_W_le c.1 hi
  unfold wpY_weight
  dsimp only
  refine ym_all c hi ?_
  rw [ix_5', nI_clamp (by omega : 5 * i + j < 2 ^ 31), c.2 _ (by omega)]
  by_cases z : ch_W w i = 0
  · refine br_t (by rw [z]; rfl) ?_
    by_cases q : i = j
    · refine br_t (by rw [q]) ?_
      rw [show ch_sw w i j = 1 by unfold ch_sw; rw [if_pos z, if_pos q]] at hp
      exact hp
    · refine br_f (fun h => q ((nI_eq (by omega) (by omega)).mp h)) ?_
      rw [show ch_sw w i j = 0 by simp [ch_sw, z, q]] at hp
      exact hp
  · refine br_f (fun h => z ((cw_0 (by omega)).mp h)) ⟨vp_in_nI (by omega) (by omega), ?_⟩
    rw [show ch_sw w i j = w (5 * i + j) by simp [ch_sw, z]] at hp
    exact hp
theorem ym_tot {post : Int32 → Prop} (c : cr_Y n w a) {i : Nat} (hi : i < 5) (hp : post (nI (ch_tot w i))) : wpY_whole post (nI n, fa, fb, a, up, dn, op, tp, bt, nt, nb) (nI i) := by
  have W := ch_W_le c.1 hi
  unfold wpY_whole
  dsimp only
  refine ym_all c hi ?_
  by_cases z : ch_W w i = 0
  · refine br_t (by rw [z]; rfl) ?_
    rw [show ch_tot w i = 1 by simp [ch_tot, z]] at hp
    exact hp
  · refine br_f (fun h => z ((cw_0 (by omega)).mp h)) ?_
    rw [show ch_tot w i = ch_W w i by simp [ch_tot, z]] at hp
    exact hp
theorem ym_d5 {p : Nat} (h : p < 2 ^ 31) : nI p / 5 = nI (p / 5) := pk_div (d := 5) h (by decide) (by decide)
theorem ym_r5 {p : Nat} (h : p < 2 ^ 31) : nI p - nI p / 5 * 5 = nI (p % 5) := pk_rem (d := 5) h (by decide) (by decide)
theorem ym_one {post : Int32 → Prop} (c : cr_Y n w a) {m m' : Nat} (hm : m < 32) (h' : bm_is n m' (fun j => ∃ i, i < n ∧ m.testBit i = true ∧ 0 < ch_sw w i j)) (hp : post (nI m')) : wpY_oneStep post (nI n, fa, fb, a, up, dn, op, tp, bt, nt, nb) (nI m) := by
  have h5 := c.1.2.1
  refine loop_0 (fun f p (s : Int32) => wY_oneStep_4 post (nI m) (nI n) fa fb a up dn op tp bt nt nb f s (nI p)) (fun p s => ∃ acc, s = nI acc ∧ bm_is n acc (fun j => ∃ i, 5 * i + j < p ∧ i < n ∧ m.testBit i = true ∧ 0 < ch_sw w i j)) 25 0 ?_ ?_ ?_
  · exact ⟨0, rfl, bm_iff (bm_zero n) (fun j _ => ⟨fun z => z.elim, fun ⟨x, hx, _⟩ => by omega⟩)⟩
  · rintro f s ⟨acc, rfl, ha⟩
    refine br_t (by decide) ?_
    rw [bm_ext ha h' (fun j hj => ⟨fun ⟨i, _, q⟩ => ⟨i, q⟩, fun ⟨i, q⟩ => ⟨i, by omega, q⟩⟩)]
    exact hp
  · rintro f p s hp25 ⟨acc, rfl, ha⟩ ih
    refine br_f (nI_ge (b := 25) hp25 (by decide)) ⟨by decide, ?_⟩
    rw [ym_r5 (by omega : p < 2 ^ 31), ym_d5 (by omega : p < 2 ^ 31)]
    have dm := Nat.div_add_mod p 5
    have ml : p % 5 < 5 := Nat.mod_lt _ (by decide)
    have dl : p / 5 < 5 := by omega
    generalize p / 5 = i at *
    generalize p % 5 = j at *
    have skip : ¬ (i < n ∧ j < n ∧ m.testBit i = true ∧ 0 < ch_sw w i j) → ∀ y, y < n → ((∃ x, 5 * x + y < p ∧ x < n ∧ m.testBit x = true ∧ 0 < ch_sw w x y) ↔ ∃ x, 5 * x + y < p + 1 ∧ x < n ∧ m.testBit x = true ∧ 0 < ch_sw w x y) := by
      intro no y hy
      constructor
      · rintro ⟨x, q, r⟩; exact ⟨x, by omega, r⟩
      · rintro ⟨x, q, r⟩
        by_cases e : 5 * x + y = p
        · have ex : x = i := by omega
          have ey : y = j := by omega
          subst ex ey
          exact absurd ⟨r.1, hy, r.2⟩ no
        · exact ⟨x, by omega, r⟩
    have s58 : ¬ (i < n ∧ j < n ∧ m.testBit i = true ∧ 0 < ch_sw w i j) → wY_oneStep_58 post (wY_oneStep_4 post (nI m) (nI n) fa fb a up dn op tp bt nt nb f) (nI m) (nI acc) (nI p) (nI n) fa fb a up dn op tp bt nt nb :=
      fun no => br_t rfl (nm_r (nI_1 p) (ih _ ⟨acc, rfl, bm_iff ha (skip no)⟩))
    rcases Nat.lt_or_ge i n with hi | hi
    · refine br_f (nI_ge hi (by omega)) ⟨by decide, ?_⟩
      rcases Nat.lt_or_ge j n with hj | hj
      · refine br_f (nI_ge hj (by omega)) ⟨by decide, ?_⟩
        refine ym_in hm (by omega) (fun b => ?_) (fun b => ?_)
        · refine br_f (by decide) ⟨by decide, by decide, ?_⟩
          refine ym_sw c (by omega) (by omega) ?_
          have sl := ch_sw_le c.1 (i := i) (j := j) (by omega) (by omega)
          rcases Nat.eq_zero_or_pos (ch_sw w i j) with z | z
          · exact br_t ((cw_le0 (by omega)).mpr z) (s58 (fun q => by omega))
          · refine br_f (fun h => by have := (cw_le0 (by omega)).mp h; omega) ?_
            refine br_f (by decide) ⟨by decide, ?_⟩
            rw [ym_r5 (by omega), show p % 5 = j by omega, bm_shl j (by omega), bm_or]
            refine nm_e (nm_r (nI_1 p) (ih _ ⟨_, rfl, bm_iff (bm_or2 ha (bm_one hj)) (fun y hy => ?_)⟩))
            constructor
            · rintro (⟨x, q, r⟩ | q)
              · exact ⟨x, by omega, r⟩
              · rw [q]; exact ⟨i, by omega, hi, b, z⟩
            · rintro ⟨x, q, r⟩
              by_cases e : 5 * x + y = p
              · exact .inr (by omega)
              · exact .inl ⟨x, by omega, r⟩
        · exact br_t rfl (s58 (fun q => by rw [b] at q; exact absurd q.2.2.1 (by decide)))
      · exact br_t (nI_le hj (by omega)) (s58 (fun q => by omega))
    · exact br_t (nI_le hi (by omega)) (s58 (fun q => by omega))
theorem ym_reach {post : Int32 → Prop} (c : cr_Y n w a) {i t m' : Nat} {T : Nat → Prop} (hi : i < n) (ht : bm_is n t T) (h' : bm_is n m' (gr_R n (fun x y => 0 < ch_sw w x y) T i 5)) (hp : post (nI m')) : wpY_reachBut post (nI n, fa, fb, a, up, dn, op, tp, bt, nt, nb) (nI i) (nI t) := by
  have h5 := c.1.2.1
  refine nm_r (bm_shl i (by omega)) ?_
  refine loop_0 (fun f k (s : Int32) => wY_reachBut_7 post (nI t) (nI n) fa fb a up dn op tp bt nt nb f s (nI k)) (fun k s => ∃ acc, s = nI acc ∧ bm_is n acc (gr_R n (fun x y => 0 < ch_sw w x y) T i k)) 5 (nI (2 ^ i)) ?_ ?_ ?_
  · exact ⟨_, rfl, bm_one hi⟩
  · rintro f s ⟨acc, rfl, ha⟩
    refine br_t (by decide) ?_
    rw [bm_ext ha h' (fun _ _ => Iff.rfl)]
    exact hp
  · rintro f k s hk ⟨acc, rfl, ha⟩ ih
    refine br_f (nI_ge (b := 5) hk (by decide)) ?_
    have hd := bm_diff h5 ha ht
    obtain ⟨m, hm⟩ := bm_exists n (fun j => ∃ x, x < n ∧ (acc &&& (31 ^^^ t)).testBit x = true ∧ 0 < ch_sw w x j)
    rw [bm_not acc (bm_lt ha h5) t (bm_lt ht h5)]
    refine ym_one c (bm_lt hd h5) hm ?_
    rw [bm_or]
    refine nm_e (nm_r (nI_1 k) (ih _ ⟨_, rfl, bm_iff (bm_or2 ha hm) (fun y hy => ?_)⟩))
    constructor
    · rintro (q | ⟨x, hx, q, e⟩)
      · exact .inl q
      · have := (hd.2 x hx).mp q
        exact .inr ⟨hy, x, hx, this.1, this.2, e⟩
    · rintro (q | ⟨_, x, hx, q, nt, e⟩)
      · exact .inl q
      · exact .inr ⟨x, hx, (hd.2 x hx).mpr ⟨q, nt⟩, e⟩
theorem ym_reached {post : Int32 → Prop} (c : cr_Y n w a) {i m' : Nat} (hi : i < n) (h' : bm_is n m' (gr_R n (fun x y => 0 < ch_sw w x y) (fun _ => False) i (n - 1))) (hp : post (nI m')) : wpY_reached post (nI n, fa, fb, a, up, dn, op, tp, bt, nt, nb) (nI i) := by
  have h5 := c.1.2.1
  unfold wpY_reached
  dsimp only
  exact ym_reach (t := 0) c hi (bm_zero n) (bm_iff h' (fun j _ => (gr_R5 hi (by omega)).symm)) hp
/-- the component of a state -/
theorem ym_class {post : Int32 → Prop} (c : cr_Y n w a) {i m' : Nat} (hi : i < n) (h' : bm_is n m' (fun j => gr_R n (fun x y => 0 < ch_sw w x y) (fun _ => False) i (n - 1) j ∧ gr_R n (fun x y => 0 < ch_sw w x y) (fun _ => False) j (n - 1) i)) (hp : post (nI m')) : wpY_classSet post (nI n, fa, fb, a, up, dn, op, tp, bt, nt, nb) (nI i) := by
  have h5 := c.1.2.1
  obtain ⟨r, hr⟩ := bm_exists n (gr_R n (fun x y => 0 < ch_sw w x y) (fun _ => False) i (n - 1))
  refine loop_0 (fun f j (s : Int32) => wY_classSet_4 post (nI i) (nI n) fa fb a up dn op tp bt nt nb f s (nI j)) (fun k s => ∃ acc, s = nI acc ∧ bm_is n acc (fun j => j < k ∧ gr_R n (fun x y => 0 < ch_sw w x y) (fun _ => False) i (n - 1) j ∧ gr_R n (fun x y => 0 < ch_sw w x y) (fun _ => False) j (n - 1) i)) n 0 ?_ ?_ ?_
  · exact ⟨0, rfl, bm_iff (bm_zero n) (fun j _ => ⟨fun z => z.elim, fun z => by omega⟩)⟩
  · rintro f s ⟨acc, rfl, ha⟩
    refine br_t (nI_le (Nat.le_refl n) (by omega)) ?_
    rw [bm_ext ha h' (fun j hj => ⟨fun q => q.2, fun q => ⟨hj, q⟩⟩)]
    exact hp
  · rintro f j s hj ⟨acc, rfl, ha⟩ ih
    refine br_f (nI_ge hj (by omega)) ?_
    refine ym_reached c hi hr ?_
    refine ym_in (bm_lt hr h5) (by omega) (fun b => ?_) (fun b => ?_)
    · refine br_f (by decide) ?_
      obtain ⟨q, hq⟩ := bm_exists n (gr_R n (fun x y => 0 < ch_sw w x y) (fun _ => False) j (n - 1))
      refine ym_reached c hj hq ?_
      refine ym_in (bm_lt hq h5) (by omega) (fun b2 => ?_) (fun b2 => ?_)
      · refine br_f (by decide) ?_
        rw [bm_shl j (by omega), bm_or]
        refine nm_e (nm_r (nI_1 j) (ih _ ⟨_, rfl, bm_iff (bm_or2 ha (bm_one hj)) (fun y hy => ?_)⟩))
        constructor
        · rintro (z | z)
          · exact ⟨by omega, z.2⟩
          · rw [z]; exact ⟨by omega, (hr.2 j hj).mp b, (hq.2 i hi).mp b2⟩
        · rintro ⟨z, r⟩
          by_cases e : y = j
          · exact .inr e
          · exact .inl ⟨by omega, r⟩
      · refine br_t rfl (nm_r (nI_1 j) (ih _ ⟨acc, rfl, bm_iff ha (fun y hy => ⟨fun z => ⟨by omega, z.2⟩, fun z => ⟨?_, z.2⟩⟩)⟩))
        have : y ≠ j := fun e => by
          have := (hq.2 i hi).mpr (e ▸ z.2.2)
          rw [b2] at this; cases this
        omega
    · refine br_t rfl (nm_r (nI_1 j) (ih _ ⟨acc, rfl, bm_iff ha (fun y hy => ⟨fun z => ⟨by omega, z.2⟩, fun z => ⟨?_, z.2⟩⟩)⟩))
      have : y ≠ j := fun e => by
        have := (hr.2 j hj).mpr (e ▸ z.2.1)
        rw [b] at this; cases this
      omega
theorem ym_closed {post : Int32 → Prop} (c : cr_Y n w a) {i : Nat} (hi : i < n) (h1 : gr_cl n w i → post 1) (h0 : ¬ gr_cl n w i → post 0) : wpY_isClosed post (nI n, fa, fb, a, up, dn, op, tp, bt, nt, nb) (nI i) := by
  have h5 := c.1.2.1
  obtain ⟨r, hr⟩ := bm_exists n (gr_R n (fun x y => 0 < ch_sw w x y) (fun _ => False) i (n - 1))
  obtain ⟨k, hk⟩ := bm_exists n (fun j => gr_R n (fun x y => 0 < ch_sw w x y) (fun _ => False) i (n - 1) j ∧ gr_R n (fun x y => 0 < ch_sw w x y) (fun _ => False) j (n - 1) i)
  unfold wpY_isClosed
  dsimp only
  refine ym_reached c hi hr (ym_class c hi hk ?_)
  have d := bm_diff h5 hr hk
  have lt := bm_lt d h5
  rw [bm_not r (bm_lt hr h5) k (bm_lt hk h5)]
  have key : gr_cl n w i ↔ ¬ ∃ j, j < n ∧ gr_R n (fun x y => 0 < ch_sw w x y) (fun _ => False) i (n - 1) j ∧ ¬ (gr_R n (fun x y => 0 < ch_sw w x y) (fun _ => False) i (n - 1) j ∧ gr_R n (fun x y => 0 < ch_sw w x y) (fun _ => False) j (n - 1) i) := by
    constructor
    · rintro h ⟨j, hj, r, no⟩
      exact no ⟨r, (gr_to hi hj (by omega)).mp (h j hj r)⟩
    · intro h j hj r
      apply Classical.byContradiction
      intro no
      exact h ⟨j, hj, r, fun q => no ((gr_to hi hj (by omega)).mpr q.2)⟩
  by_cases z : r &&& (31 ^^^ k) = 0
  · refine br_t (by rw [z]; rfl) (h1 (key.mpr (fun q => ?_)))
    exact (bm_ne0 d).mpr q z
  · refine br_f (fun q => z ((cw_0 (by omega)).mp q)) (h0 (fun q => ?_))
    exact key.mp q ((bm_ne0 d).mp z)
end
end
section
/-! greatest common divisors and fractions on both sides -/
theorem gc_half {b r : Nat} (hr : 0 < r) (h : r < b) : 2 * (b % r) < b := by
  have a := Nat.mod_lt b hr
  have d := Nat.div_add_mod b r
  have q : 1 ≤ b / r := (Nat.le_div_iff_mul_le hr).mpr (by omega)
  have m : r * 1 ≤ r * (b / r) := Nat.mul_le_mul (Nat.le_refl r) q
  omega
theorem gc_step (a b : Nat) : Nat.gcd b (a % b) = Nat.gcd a b := by
  rw [Nat.gcd_comm b, ← Nat.gcd_rec, Nat.gcd_comm]
theorem gc_lt {a b : Nat} (ha : a < 2 ^ 63) (hb : b < 2 ^ 63) : Nat.gcd a b < 2 ^ 63 := by
  rcases Nat.eq_zero_or_pos a with z | z
  · rw [z, Nat.gcd_zero_left]; exact hb
  · exact Nat.lt_of_le_of_lt (Nat.gcd_le_left b z) ha
theorem gc_l0 {b : Nat} (hb : b < 2 ^ 63) : lN b = 0 ↔ b = 0 := pk_lEQ (b := 0) hb (by decide)
theorem gc_le0 {b : Nat} (hb : b < 2 ^ 63) : lN b ≤ 0 ↔ b = 0 := by
  rw [show (0 : Int64) = lN 0 from rfl, pk_lLE hb (by decide)]; omega
theorem xm_gcdL {post : Int64 → Prop} : ∀ m a b k f, b < 2 ^ m → m ≤ 63 → k + 2 * m ≤ 200 → a < 2 ^ 63 → 2 * m + 1 ≤ f → post (lN (Nat.gcd a b)) → wX_commonDivisor_9 post f (lN a) (lN b) (nI k) := by
  intro m
  induction m with
  | zero =>
    intro a b k f hb _ hk ha hf hp
    obtain ⟨f, rfl⟩ : ∃ g, f = g + 1 := ⟨f - 1, by omega⟩
    have b0 : b = 0 := by omega
    subst b0
    rw [Nat.gcd_zero_right] at hp
    exact pk_le 200 k (fun _ => hp) (fun _ => br_t rfl hp)
  | succ m ih =>
    intro a b k f hb hm hk ha hf hp
    obtain ⟨f, rfl⟩ : ∃ g, f = g + 1 := ⟨f - 1, by omega⟩
    have b63 : b < 2 ^ 63 := Nat.lt_of_lt_of_le hb (Nat.pow_le_pow_right (by omega) hm)
    refine pk_le 200 k (fun z => absurd z (by omega)) (fun _ => ?_)
    rcases Nat.eq_zero_or_pos b with z | z
    · subst z
      rw [Nat.gcd_zero_right] at hp
      exact br_t rfl hp
    · have nz : ¬ lN b = 0 := fun q => by have := (gc_l0 b63).mp q; omega
      refine br_f nz ⟨nz, ?_⟩
      rw [pk_lRem ha z b63]
      refine nm_e (nm_r (nI_1 k) ?_)
      have r1 := Nat.mod_lt a z
      rcases Nat.eq_zero_or_pos (a % b) with y | y
      · refine ih b (a % b) (k + 1) f (by rw [y]; exact Nat.two_pow_pos m) (by omega) (by omega) b63 (by omega) ?_
        rw [gc_step]; exact hp
      · obtain ⟨f, rfl⟩ : ∃ g, f = g + 1 := ⟨f - 1, by omega⟩
        refine pk_le 200 (k + 1) (fun z => absurd z (by omega)) (fun _ => ?_)
        have r63 : a % b < 2 ^ 63 := by omega
        have nz2 : ¬ lN (a % b) = 0 := fun q => by have := (gc_l0 r63).mp q; omega
        refine br_f nz2 ⟨nz2, ?_⟩
        rw [pk_lRem b63 y r63]
        refine nm_e (nm_r (nI_1 (k + 1)) ?_)
        refine ih (a % b) (b % (a % b)) (k + 1 + 1) f (by have := gc_half y r1; rw [Nat.pow_succ] at hb; omega) (by omega) (by omega) r63 (by omega) ?_
        rw [gc_step, gc_step]; exact hp
theorem xm_gcd {post : Int64 → Prop} {a b : Nat} (ha : a < 2 ^ 63) (hb : b < 2 ^ 63) (hp : post (lN (Nat.gcd a b))) : wpX_commonDivisor post (lN a) (lN b) :=
  ⟨127, xm_gcdL 63 a b 0 127 hb (by omega) (by omega) ha (by omega) hp⟩
theorem lz_of {p : Int} (h : 0 ≤ p) : Int64.ofInt p = lN p.natAbs := by
  rw [lz_nat]; congr 1; omega
theorem xm_part {post : Int64 → Prop} {p q : Int} (hp : 0 ≤ p) (hq : 0 < q) (bp : p.natAbs < 9223372036854775808) (bq : q < 9223372036854775808) {x y : Int64} (f : fp_is x y p q) {part : Int32} (h0 : part = 0 → post x) (h1 : ¬ part = 0 → post y) : wpX_partOf post (Int64.ofInt p) (Int64.ofInt q) part := by
  have g0 : 0 < Int.gcd p q := Int.gcd_pos_of_ne_zero_right (a := p) (b := q) (by omega)
  have gl : (Int.gcd p q : Int) ≤ q := Int.le_of_dvd hq (Int.gcd_dvd_right (a := p) (b := q))
  have key := (fp_uniq hq hq (fp_parts hq bp bq) f).mpr rfl
  have gg : lN (Nat.gcd p.natAbs q.natAbs) = Int64.ofInt (Int.gcd p q : Int) := lz_nat _
  have nz : ¬ Int64.ofInt (Int.gcd p q : Int) = 0 := fun z => by have := (lz_eq0 (by omega)).mp z; omega
  have step : ∀ z0 r, (Int64.ofInt z0 / Int64.ofInt (Int.gcd p q : Int) = r) → post r → wX_partOf_10 post (Int64.ofInt p) (Int64.ofInt q) (Int64.ofInt z0) := by
    intro z0 r e pr
    unfold wX_partOf_10
    rw [lz_of hp, lz_of (Int.le_of_lt hq)]
    refine xm_gcd (by omega) (by omega) ?_
    rw [gg]
    refine br_f nz ⟨nz, ?_⟩
    rw [e]; exact pr
  exact br_c (fun z => step p x key.1 (h0 z)) (fun z => step q y key.2 (h1 z))
theorem xm_partInf {post : Int64 → Prop} {part : Int32} (h0 : part = 0 → post 1) (h1 : ¬ part = 0 → post 0) : wpX_partOf post 1 0 part := by
  have nz : ¬ (1 : Int64) = 0 := by decide
  have a : wX_partOf_10 post 1 0 1 ↔ wX_partOf_10 post 1 0 1 := Iff.rfl
  have step : ∀ z0 r : Int64, (z0 / 1 = r) → post r → wX_partOf_10 post 1 0 z0 := by
    intro z0 r e pr
    refine xm_gcd (a := 1) (b := 0) (by decide) (by decide) ?_
    exact br_f nz ⟨nz, by rw [show lN (Nat.gcd 1 0) = 1 from rfl, e]; exact pr⟩
  exact br_c (fun z => step 1 1 (by decide) (h0 z)) (fun z => step 0 0 (by decide) (h1 z))
/-! the reference's -/
theorem gc_rem (x m : Int64) (hm : 0 < m.toInt) : x - x / m * m = Int64.ofInt (x.toInt.tmod m.toInt) := by
  have ne : m ≠ -1 := fun z => by rw [z] at hm; exact absurd hm (by decide)
  have d : x / m = Int64.ofInt (x.toInt.tdiv m.toInt) := by
    rw [← Int64.toInt_div_of_ne_right x m ne, Int64.ofInt_toInt]
  have e : x - x / m * m = Int64.ofInt (x.toInt - x.toInt.tdiv m.toInt * m.toInt) := by
    rw [Int64.ofInt_sub, Int64.ofInt_mul, Int64.ofInt_toInt, Int64.ofInt_toInt, ← d]
  rw [e]
  congr 1
  rw [Int.tmod_def, Int.mul_comm]
section
variable {n : Nat} {a : Nat → Int32} {fa fb : Int64} {up dn : Nat → Int64} {op : Nat → Int32} {tp bt nt nb : Nat → Int64}
theorem ym_cT (st : Int32) : ∀ k (x y : Int64), y.toInt.toNat ≤ k → ∃ g, ∀ post : Int64 → Prop, post g → ∃ f, wY_common_28 post st fa fb a up dn op tp bt nt nb f x y := by
  intro k
  induction k with
  | zero =>
    intro x y h
    refine ⟨x, fun post hp => ⟨1, br_t ?_ hp⟩⟩
    rw [Int64.le_iff_toInt_le, show (0 : Int64).toInt = 0 from rfl]
    omega
  | succ k ih =>
    intro x y h
    by_cases z : y ≤ 0
    · exact ⟨x, fun post hp => ⟨1, br_t z hp⟩⟩
    · have y0 : 0 < y.toInt := by
        rw [Int64.le_iff_toInt_le, show (0 : Int64).toInt = 0 from rfl] at z
        omega
      have tb := tmod_bounds (a := x.toInt) y0
      have yl := Int64.toInt_lt y
      have e : (x - x / y * y).toInt = x.toInt.tmod y.toInt := by
        rw [gc_rem x y y0]
        exact lz_toInt (by omega)
      obtain ⟨g, hg⟩ := ih y (x - x / y * y) (by rw [e]; omega)
      refine ⟨g, fun post hp => ?_⟩
      obtain ⟨f, hf⟩ := hg post hp
      have nz : ¬ y = 0 := fun q => by rw [q] at y0; exact absurd y0 (by decide)
      exact ⟨f + 1, br_f z ⟨nz, nm_e hf⟩⟩
theorem ym_cS (st : Int32) : ∀ b a' : Nat, a' < 2 ^ 63 → b < 2 ^ 63 → ∀ post : Int64 → Prop, post (lN (Nat.gcd a' b)) → ∃ f, wY_common_28 post st fa fb a up dn op tp bt nt nb f (lN a') (lN b) := by
  intro b
  induction b using Nat.strongRecOn with
  | ind b ih =>
    intro a' ha hb post hp
    rcases Nat.eq_zero_or_pos b with z | z
    · subst z
      rw [Nat.gcd_zero_right] at hp
      exact ⟨1, br_t (by decide) hp⟩
    · have r1 := Nat.mod_lt a' z
      obtain ⟨f, hf⟩ := ih (a' % b) r1 b hb (by omega) post (by rw [gc_step]; exact hp)
      have nz : ¬ lN b = 0 := fun q => by have := (gc_l0 hb).mp q; omega
      have np : ¬ lN b ≤ 0 := fun q => by have := (gc_le0 hb).mp q; omega
      exact ⟨f + 1, br_f np ⟨nz, nm_r (pk_lRem ha z hb) hf⟩⟩
theorem ym_commonT (st : Int32) (x y : Int64) : ∃ g, ∀ post : Int64 → Prop, post g → wpY_common post (st, fa, fb, a, up, dn, op, tp, bt, nt, nb) x y := by
  have s12 : ∀ z0 : Int64, ∃ g, ∀ post : Int64 → Prop, post g → wY_common_12 post y z0 st fa fb a up dn op tp bt nt nb := by
    intro z0
    by_cases q : 0 ≤ y
    · obtain ⟨g, hg⟩ := ym_cT (fa := fa) (fb := fb) (a := a) (up := up) (dn := dn) (op := op) (tp := tp) (bt := bt) (nt := nt) (nb := nb) st _ z0 y (Nat.le_refl _)
      exact ⟨g, fun post hp => br_t q (hg post hp)⟩
    · obtain ⟨g, hg⟩ := ym_cT (fa := fa) (fb := fb) (a := a) (up := up) (dn := dn) (op := op) (tp := tp) (bt := bt) (nt := nt) (nb := nb) st _ z0 (-y) (Nat.le_refl _)
      exact ⟨g, fun post hp => br_f q (nm_e (hg post hp))⟩
  by_cases q : 0 ≤ x
  · obtain ⟨g, hg⟩ := s12 x
    exact ⟨g, fun post hp => br_t q (hg post hp)⟩
  · obtain ⟨g, hg⟩ := s12 (-x)
    exact ⟨g, fun post hp => br_f q (hg post hp)⟩
theorem ym_common {st : Int32} {post : Int64 → Prop} {p q : Int} (bp : p.natAbs < 9223372036854775808) (bq : q.natAbs < 9223372036854775808) (hp : post (Int64.ofInt (Int.gcd p q : Int))) : wpY_common post (st, fa, fb, a, up, dn, op, tp, bt, nt, nb) (Int64.ofInt p) (Int64.ofInt q) := by
  have gg : lN (Nat.gcd p.natAbs q.natAbs) = Int64.ofInt (Int.gcd p q : Int) := lz_nat _
  have ng : ∀ z : Int, ¬ 0 ≤ z → -Int64.ofInt z = lN z.natAbs := by
    intro z hz
    rw [← Int64.ofInt_neg, lz_nat]
    congr 1; omega
  have le0 : ∀ z : Int, z.natAbs < 9223372036854775808 → ((0 : Int64) ≤ Int64.ofInt z ↔ 0 ≤ z) := fun z hz => lz_le (a := 0) (by decide) hz
  have s12 : wY_common_12 post (Int64.ofInt q) (lN p.natAbs) st fa fb a up dn op tp bt nt nb := by
    by_cases z : 0 ≤ q
    · refine br_t ((le0 q bq).mpr z) ?_
      rw [lz_of z]
      exact ym_cS st _ _ (by omega) (by omega) post (by rw [gg]; exact hp)
    · refine br_f (fun h => z ((le0 q bq).mp h)) ?_
      rw [ng q z]
      exact nm_e (ym_cS st _ _ (by omega) (by omega) post (by rw [gg]; exact hp))
  by_cases z : 0 ≤ p
  · refine br_t ((le0 p bp).mpr z) ?_
    rw [lz_of z]
    exact s12
  · refine br_f (fun h => z ((le0 p bp).mp h)) ?_
    rw [ng p z]
    exact s12
theorem ym_reduceT (st : Int32) (x y : Int64) : ∃ x' y', ∀ post : SY → Prop, post (st, x', y', a, up, dn, op, tp, bt, nt, nb) → wpY_reduce post (st, fa, fb, a, up, dn, op, tp, bt, nt, nb) x y := by
  obtain ⟨g, hg⟩ := ym_commonT (fa := fa) (fb := fb) (a := a) (up := up) (dn := dn) (op := op) (tp := tp) (bt := bt) (nt := nt) (nb := nb) st x y
  have s18 : ∀ d : Int64, ¬ d = 0 → ∃ x' y', ∀ post : SY → Prop, post (st, x', y', a, up, dn, op, tp, bt, nt, nb) → wY_reduce_18 post x y d st fa fb a up dn op tp bt nt nb := by
    intro d nz
    by_cases q : 0 ≤ y
    · exact ⟨x / d, y / d, fun post hp => br_t q ⟨nz, br_t q ⟨nz, nm_e hp⟩⟩⟩
    · exact ⟨(-x) / d, (-y) / d, fun post hp => br_f q ⟨nz, br_f q ⟨nz, nm_e hp⟩⟩⟩
  by_cases z : g = 0
  · obtain ⟨x', y', h⟩ := s18 1 (by decide)
    exact ⟨x', y', fun post hp => hg _ (br_t z (h post hp))⟩
  · obtain ⟨x', y', h⟩ := s18 g z
    exact ⟨x', y', fun post hp => hg _ (br_f z (h post hp))⟩
theorem ym_reduce {st : Int32} {post : SY → Prop} {p q : Int} (hq : 0 < q) (bp : p.natAbs < 9223372036854775808) (bq : q < 9223372036854775808) (hp : ∀ x y, fp_is x y p q → post (st, x, y, a, up, dn, op, tp, bt, nt, nb)) : wpY_reduce post (st, fa, fb, a, up, dn, op, tp, bt, nt, nb) (Int64.ofInt p) (Int64.ofInt q) := by
  have g0 : 0 < Int.gcd p q := Int.gcd_pos_of_ne_zero_right (a := p) (b := q) (by omega)
  have gl : (Int.gcd p q : Int) ≤ q := Int.le_of_dvd hq (Int.gcd_dvd_right (a := p) (b := q))
  have nz : ¬ Int64.ofInt (Int.gcd p q : Int) = 0 := fun z => by have := (lz_eq0 (by omega)).mp z; omega
  have le0 : (0 : Int64) ≤ Int64.ofInt q := (lz_le (a := 0) (by decide) (by omega)).mpr (by omega)
  unfold wpY_reduce
  dsimp only
  refine ym_common bp (by omega) ?_
  exact br_f nz (br_t le0 ⟨nz, br_t le0 ⟨nz, nm_e (hp _ _ (fp_parts hq bp bq))⟩⟩)
theorem ym_addT (st : Int32) (x y u v : Int64) : ∃ x' y', ∀ post : SY → Prop, post (st, x', y', a, up, dn, op, tp, bt, nt, nb) → wpY_addFractions post (st, fa, fb, a, up, dn, op, tp, bt, nt, nb) x y u v := by
  obtain ⟨g, hg⟩ := ym_commonT (fa := fa) (fb := fb) (a := a) (up := up) (dn := dn) (op := op) (tp := tp) (bt := bt) (nt := nt) (nb := nb) st y v
  have s19 : ∀ d : Int64, ¬ d = 0 → ∃ x' y', ∀ post : SY → Prop, post (st, x', y', a, up, dn, op, tp, bt, nt, nb) → wY_addFractions_19 post x y u v d st fa fb a up dn op tp bt nt nb := by
    intro d nz
    obtain ⟨x', y', h⟩ := ym_reduceT (fa := fa) (fb := fb) (a := a) (up := up) (dn := dn) (op := op) (tp := tp) (bt := bt) (nt := nt) (nb := nb) st ((x * (v / d)) + (u * (y / d))) ((y / d) * v)
    exact ⟨x', y', fun post hp => ⟨nz, nz, nz, h _ hp⟩⟩
  by_cases z : g = 0
  · obtain ⟨x', y', h⟩ := s19 1 (by decide)
    exact ⟨x', y', fun post hp => hg _ (br_t z (h post hp))⟩
  · obtain ⟨x', y', h⟩ := s19 g z
    exact ⟨x', y', fun post hp => hg _ (br_f z (h post hp))⟩
theorem ym_mulT (st : Int32) (x y u v : Int64) : ∃ x' y', ∀ post : SY → Prop, post (st, x', y', a, up, dn, op, tp, bt, nt, nb) → wpY_multiply post (st, fa, fb, a, up, dn, op, tp, bt, nt, nb) x y u v := by
  obtain ⟨g, hg⟩ := ym_commonT (fa := fa) (fb := fb) (a := a) (up := up) (dn := dn) (op := op) (tp := tp) (bt := bt) (nt := nt) (nb := nb) st x v
  obtain ⟨k, hk⟩ := ym_commonT (fa := fa) (fb := fb) (a := a) (up := up) (dn := dn) (op := op) (tp := tp) (bt := bt) (nt := nt) (nb := nb) st u y
  have s38 : ∀ d e : Int64, ¬ d = 0 → ¬ e = 0 → ∃ x' y', ∀ post : SY → Prop, post (st, x', y', a, up, dn, op, tp, bt, nt, nb) → wY_multiply_38 post x y u v d e st fa fb a up dn op tp bt nt nb := by
    intro d e nd ne
    obtain ⟨x', y', h⟩ := ym_reduceT (fa := fa) (fb := fb) (a := a) (up := up) (dn := dn) (op := op) (tp := tp) (bt := bt) (nt := nt) (nb := nb) st ((x / d) * (u / e)) ((y / e) * (v / d))
    exact ⟨x', y', fun post hp => ⟨nd, ne, ne, nd, h _ hp⟩⟩
  have s28 : ∀ d : Int64, ¬ d = 0 → ∃ x' y', ∀ post : SY → Prop, post (st, x', y', a, up, dn, op, tp, bt, nt, nb) → wY_multiply_28 post x y u v d k st fa fb a up dn op tp bt nt nb := by
    intro d nd
    by_cases z : k = 0
    · obtain ⟨x', y', h⟩ := s38 d 1 nd (by decide)
      exact ⟨x', y', fun post hp => br_t z (h post hp)⟩
    · obtain ⟨x', y', h⟩ := s38 d k nd z
      exact ⟨x', y', fun post hp => br_f z (h post hp)⟩
  by_cases z : g = 0
  · obtain ⟨x', y', h⟩ := s28 1 (by decide)
    exact ⟨x', y', fun post hp => hg _ (hk _ (br_t z (h post hp)))⟩
  · obtain ⟨x', y', h⟩ := s28 g z
    exact ⟨x', y', fun post hp => hg _ (hk _ (br_f z (h post hp)))⟩
/-- multiplying, with nothing too large on the way -/
theorem ym_mul {st : Int32} {post : SY → Prop} {x y u v : Int} (hy : 0 < y) (hv : 0 < v) (bx : x.natAbs < 9223372036854775808) (by' : y < 9223372036854775808) (bu : u.natAbs < 9223372036854775808) (bv : v < 9223372036854775808)
    (b1 : (x.tdiv (Int.gcd x v : Int) * u.tdiv (Int.gcd u y : Int)).natAbs < 9223372036854775808) (b2 : y.tdiv (Int.gcd u y : Int) * v.tdiv (Int.gcd x v : Int) < 9223372036854775808)
    (hp : ∀ x' y', fp_is x' y' (x * u) (y * v) → post (st, x', y', a, up, dn, op, tp, bt, nt, nb)) :
    wpY_multiply post (st, fa, fb, a, up, dn, op, tp, bt, nt, nb) (Int64.ofInt x) (Int64.ofInt y) (Int64.ofInt u) (Int64.ofInt v) := by
  obtain ⟨f1, f2, _, _⟩ := fr_mul (x := x) (u := u) hy hv
  have g0 : 0 < Int.gcd x v := Int.gcd_pos_of_ne_zero_right (a := x) (b := v) (by omega)
  have gl : (Int.gcd x v : Int) ≤ v := Int.le_of_dvd hv (Int.gcd_dvd_right (a := x) (b := v))
  have k0 : 0 < Int.gcd u y := Int.gcd_pos_of_ne_zero_right (a := u) (b := y) (by omega)
  have kl : (Int.gcd u y : Int) ≤ y := Int.le_of_dvd hy (Int.gcd_dvd_right (a := u) (b := y))
  have nd : ¬ Int64.ofInt (Int.gcd x v : Int) = 0 := fun z => by have := (lz_eq0 (by omega)).mp z; omega
  have ne : ¬ Int64.ofInt (Int.gcd u y : Int) = 0 := fun z => by have := (lz_eq0 (by omega)).mp z; omega
  unfold wpY_multiply
  dsimp only
  refine ym_common bx (by omega) (ym_common bu (by omega) (br_f nd (br_f ne ⟨nd, ne, ne, nd, ?_⟩)))
  rw [lz_div bx (by omega), lz_div bu (by omega), lz_div (by omega) (by omega), lz_div (by omega) (by omega), ← Int64.ofInt_mul, ← Int64.ofInt_mul]
  refine ym_reduce f2 b1 b2 (fun x' y' f => hp x' y' ?_)
  unfold fp_is at f ⊢
  rw [f1] at f
  exact f
theorem ym_mulP {st : Int32} {post : SY → Prop} {x y u v : Int64} {p q p' q' p2 q2 : Int} (f : fp_is x y p q) (g : fp_is u v p' q') (hq : 0 < q) (hq' : 0 < q') (hq2 : 0 < q2) (e : p * p' * q2 = p2 * (q * q')) (b1 : p2.natAbs < 9223372036854775808) (b2 : q2 < 9223372036854775808)
    (hp : ∀ x' y', fp_is x' y' p2 q2 → post (st, x', y', a, up, dn, op, tp, bt, nt, nb)) : wpY_multiply post (st, fa, fb, a, up, dn, op, tp, bt, nt, nb) x y u v := by
  obtain ⟨rfl, rfl, f3, f4⟩ := f
  obtain ⟨rfl, rfl, g3, g4⟩ := g
  have dp := fr_den_pos p q
  have dp' := fr_den_pos p' q'
  have r := fr_mulR dp dp' ((Rat.divInt p q).reduced) ((Rat.divInt p' q').reduced)
  have eq : Rat.divInt (p * p') (q * q') = Rat.divInt p2 q2 := fr_eq (Int.mul_pos hq hq') hq2 e
  have l := fr_le p2 hq2
  rw [fp_prod hq hq', eq] at r
  refine ym_mul dp dp' f3 f4 g3 g4 (by rw [r.1]; omega) (by rw [r.2]; omega) (fun x' y' h => hp x' y' ?_)
  unfold fp_is at h ⊢
  rw [fp_prod hq hq', eq] at h
  exact h
theorem ym_mulQ {st : Int32} {post : SY → Prop} {x y u v : Int64} {p q p' q' p2 q2 : Int} (f : fp_is x y p q) (g : fp_is v u p' q') (hq : 0 < q) (hp' : 0 < p') (hq' : 0 < q') (hq2 : 0 < q2) (e : p * q' * q2 = p2 * (q * p')) (b1 : p2.natAbs < 9223372036854775808) (b2 : q2 < 9223372036854775808)
    (hp : ∀ x' y', fp_is x' y' p2 q2 → post (st, x', y', a, up, dn, op, tp, bt, nt, nb)) : wpY_multiply post (st, fa, fb, a, up, dn, op, tp, bt, nt, nb) x y u v := by
  obtain ⟨rfl, rfl, f3, f4⟩ := f
  obtain ⟨rfl, rfl, g3, g4⟩ := g
  have dp := fr_den_pos p q
  have dp' := fr_den_pos p' q'
  obtain ⟨n0, qe⟩ := fp_quot (p := p) hq hp' hq'
  have r := fr_mulR (u := ((Rat.divInt p' q').den : Int)) dp n0 ((Rat.divInt p q).reduced) (by rw [Int.gcd_comm]; exact (Rat.divInt p' q').reduced)
  have eq : Rat.divInt (p * q') (q * p') = Rat.divInt p2 q2 := fr_eq (Int.mul_pos hq hp') hq2 e
  have l := fr_le p2 hq2
  rw [qe, eq] at r
  refine ym_mul dp n0 f3 f4 (by omega) (by omega) (by rw [r.1]; omega) (by rw [r.2]; omega) (fun x' y' h => hp x' y' ?_)
  unfold fp_is at h ⊢
  rw [qe, eq] at h
  exact h
theorem ym_mulS {st : Int32} {post : SY → Prop} {x y : Int64} {p q u v : Int} (f : fp_is x y p q) (hq : 0 < q) (hv : 0 < v) (bu : u.natAbs < 9223372036854775808) (bv : v < 9223372036854775808) (b1 : (p * u).natAbs < 9223372036854775808) (b2 : q * v < 9223372036854775808)
    (hp : ∀ x' y', fp_is x' y' (p * u) (q * v) → post (st, x', y', a, up, dn, op, tp, bt, nt, nb)) : wpY_multiply post (st, fa, fb, a, up, dn, op, tp, bt, nt, nb) x y (Int64.ofInt u) (Int64.ofInt v) := by
  obtain ⟨rfl, rfl, f3, f4⟩ := f
  have dp := fr_den_pos p q
  obtain ⟨m, hm, e1, e2⟩ := fr_ex p hq
  obtain ⟨_, m2, m3, m4⟩ := fr_mul (x := (Rat.divInt p q).num) (u := u) dp hv
  have l := fr_le p hq
  have c1 : ((Rat.divInt p q).num * u).natAbs ≤ (p * u).natAbs := by
    rw [Int.natAbs_mul, Int.natAbs_mul]; exact Nat.mul_le_mul l.1 (Nat.le_refl _)
  have c2 : ((Rat.divInt p q).den : Int) * v ≤ q * v := Int.mul_le_mul_of_nonneg_right l.2 (Int.le_of_lt hv)
  refine ym_mul dp hv f3 f4 bu bv (by omega) (by omega) (fun x' y' h => hp x' y' ?_)
  refine fp_eq (Int.mul_pos dp hv) (Int.mul_pos hq hv) ?_ h
  generalize (Rat.divInt p q).num = A at *
  generalize ((Rat.divInt p q).den : Int) = B at *
  subst e1 e2
  grind
/-- adding, with nothing too large on the way -/
theorem ym_add {st : Int32} {post : SY → Prop} {x y u v : Int} (hy : 0 < y) (hv : 0 < v) (by' : y < 9223372036854775808) (bv : v < 9223372036854775808)
    (b1 : (x * v.tdiv (Int.gcd y v : Int)).natAbs + (u * y.tdiv (Int.gcd y v : Int)).natAbs < 9223372036854775808) (b2 : y.tdiv (Int.gcd y v : Int) * v < 9223372036854775808)
    (hp : ∀ x' y', fp_is x' y' (x * v.tdiv (Int.gcd y v : Int) + u * y.tdiv (Int.gcd y v : Int)) (y.tdiv (Int.gcd y v : Int) * v) → post (st, x', y', a, up, dn, op, tp, bt, nt, nb)) :
    wpY_addFractions post (st, fa, fb, a, up, dn, op, tp, bt, nt, nb) (Int64.ofInt x) (Int64.ofInt y) (Int64.ofInt u) (Int64.ofInt v) := by
  obtain ⟨_, f2, _⟩ := fr_add (x := x) (u := u) hy hv
  have g0 : 0 < Int.gcd y v := Int.gcd_pos_of_ne_zero_right (a := y) (b := v) (by omega)
  have gl : (Int.gcd y v : Int) ≤ v := Int.le_of_dvd hv (Int.gcd_dvd_right (a := y) (b := v))
  have nd : ¬ Int64.ofInt (Int.gcd y v : Int) = 0 := fun z => by have := (lz_eq0 (by omega)).mp z; omega
  unfold wpY_addFractions
  dsimp only
  refine ym_common (by omega) (by omega) (br_f nd ⟨nd, nd, nd, ?_⟩)
  rw [lz_div (by omega) (by omega), lz_div (by omega) (by omega), ← Int64.ofInt_mul, ← Int64.ofInt_mul, ← Int64.ofInt_mul, ← Int64.ofInt_add]
  have s := Int.natAbs_add_le (x * v.tdiv (Int.gcd y v : Int)) (u * y.tdiv (Int.gcd y v : Int))
  exact ym_reduce f2 (by omega) b2 hp
theorem ym_addV {st : Int32} {post : SY → Prop} {x y u v : Int64} {p1 p2 V : Int} (hV : 0 < V) (f : fp_is x y p1 V) (g : fp_is u v p2 V) (b1 : p1.natAbs + p2.natAbs < 9223372036854775808) (b2 : V < 9223372036854775808)
    (hp : ∀ x' y', fp_is x' y' (p1 + p2) V → post (st, x', y', a, up, dn, op, tp, bt, nt, nb)) : wpY_addFractions post (st, fa, fb, a, up, dn, op, tp, bt, nt, nb) x y u v := by
  obtain ⟨rfl, rfl, f3, f4⟩ := f
  obtain ⟨rfl, rfl, g3, g4⟩ := g
  obtain ⟨a1, a2, a3, a4, a5⟩ := fr_addV p1 p2 hV rfl rfl rfl rfl
  refine ym_add (fr_den_pos p1 V) (fr_den_pos p2 V) f4 g4 (by omega) (by omega) (fun x' y' h => hp x' y' ?_)
  unfold fp_is at h ⊢
  rw [a1] at h
  exact h
theorem ym_addS {st : Int32} {post : SY → Prop} {x y : Int64} {p q u v : Int} (f : fp_is x y p q) (hq : 0 < q) (hv : 0 < v) (bv : v < 9223372036854775808) (b1 : (p * v).natAbs + (u * q).natAbs < 9223372036854775808) (b2 : q * v < 9223372036854775808)
    (hp : ∀ x' y', fp_is x' y' (p * v + u * q) (q * v) → post (st, x', y', a, up, dn, op, tp, bt, nt, nb)) : wpY_addFractions post (st, fa, fb, a, up, dn, op, tp, bt, nt, nb) x y (Int64.ofInt u) (Int64.ofInt v) := by
  obtain ⟨rfl, rfl, f3, f4⟩ := f
  have dp := fr_den_pos p q
  obtain ⟨m, hm, e1, e2⟩ := fr_ex p hq
  obtain ⟨m1, m2, m3, m4, m5⟩ := fr_add (x := (Rat.divInt p q).num) (u := u) dp hv
  have l := fr_le p hq
  have c1 : ((Rat.divInt p q).num * v).natAbs ≤ (p * v).natAbs := by
    rw [Int.natAbs_mul, Int.natAbs_mul]; exact Nat.mul_le_mul l.1 (Nat.le_refl _)
  have c3 : (u * ((Rat.divInt p q).den : Int)).natAbs ≤ (u * q).natAbs := by
    rw [Int.natAbs_mul, Int.natAbs_mul]; exact Nat.mul_le_mul (Nat.le_refl _) (by omega)
  have c2 : ((Rat.divInt p q).den : Int) * v ≤ q * v := Int.mul_le_mul_of_nonneg_right l.2 (Int.le_of_lt hv)
  refine ym_add dp hv f4 bv (by omega) (by omega) (fun x' y' h => hp x' y' ?_)
  unfold fp_is at h
  rw [m1] at h
  refine fp_eq (Int.mul_pos dp hv) (Int.mul_pos hq hv) ?_ h
  generalize (Rat.divInt p q).num = A at *
  generalize ((Rat.divInt p q).den : Int) = B at *
  subst e1 e2
  grind
end
end
section
/-! the component's table of equations: laying out, clearing -/
theorem cv_pos {k : Nat} (h : k < 2 ^ 31) : (nI k).toInt64 = Int64.ofInt (k : Int) := by rw [nI_l h, lz_nat]
theorem cv_neg {k : Nat} (h : k < 2 ^ 31) : (-nI k).toInt64 = Int64.ofInt (-(k : Int)) := by
  rw [← Int64.ofInt_int32ToInt]
  congr 1
  rw [Int32.toInt_neg, nI_toInt h]
  exact Int.bmod_eq_of_le (by omega) (by omega)
def xs_M (n : Nat) (sy : Nat → Int64) (A : Nat → Nat → Int) : Prop := ∀ s, s < n → ∀ c, (c < n ∨ c = 5) → sy (6 * s + c) = Int64.ofInt (A s c)
def xs_0 (w : Nat → Nat) (U : Nat → Bool) (b : Nat → Int) (r : Nat → Int) (s c : Nat) : Int :=
  if c = 5 then (if U s = true then r s else b s) else if U s = true then ch_N w s c else if c = s then 1 else 0
section
variable {n : Nat} {w : Nat → Nat} {a su : Nat → Int32} {sy ov un : Nat → Int64}
theorem xm_layOut {post : SX → Prop} (c : cr_X n w a su) {m : Nat} (hm : m < 32) (hp : ∀ sy', xs_M n sy' (xs_0 w (fun s => m.testBit s) (fun _ => 0) (fun _ => 0)) → post (nI n, a, su, sy', ov, un)) : wpX_layOut post (nI n, a, su, sy, ov, un) (nI m) := by
  have h5 := c.1.2.1
  refine loop_0 (fun f i (s : Nat → Int64) => wX_layOut_2 post (nI m) (nI n) f (nI i) a su s ov un) (fun i sy => ∀ s, s < i → ∀ c, (c < n ∨ c = 5) → sy (6 * s + c) = Int64.ofInt (xs_0 w (fun s => m.testBit s) (fun _ => 0) (fun _ => 0) s c)) n sy ?_ ?_ ?_
  · intro s hs; omega
  · intro f sy h
    exact br_t (nI_le (Nat.le_refl n) (by omega)) (hp sy h)
  · intro f i sy hi h ih
    refine br_f (nI_ge hi (by omega)) ?_
    have tl := ch_tot_le c.1 (i := i) (by omega)
    have dg : (nI i * 6 + nI i).toNatClampNeg = 6 * i + i := by rw [ix_6]; exact nI_clamp (by omega)
    have d5 : (nI i * 6 + 5).toNatClampNeg = 6 * i + 5 := by
      rw [show nI i * 6 + 5 = nI (6 * i + 5) from ix_6 i 5]; exact nI_clamp (by omega)
    have v5 : vp_in (nI i * 6 + 5) 30 := by rw [show nI i * 6 + 5 = nI (6 * i + 5) from ix_6 i 5]; exact vp_in_nI (by omega) (by decide)
    have vd : vp_in (nI i * 6 + nI i) 30 := by rw [ix_6]; exact vp_in_nI (by omega) (by decide)
    have fin : ∀ (sy' : Nat → Int64) (z0 : Int64), (∀ s, s < i → ∀ c, (c < n ∨ c = 5) → sy' (6 * s + c) = Int64.ofInt (xs_0 w (fun s => m.testBit s) (fun _ => 0) (fun _ => 0) s c)) → (∀ c, c < n → c ≠ i → sy' (6 * i + c) = Int64.ofInt (xs_0 w (fun s => m.testBit s) (fun _ => 0) (fun _ => 0) i c)) → sy' (6 * i + i) + z0 = Int64.ofInt (xs_0 w (fun s => m.testBit s) (fun _ => 0) (fun _ => 0) i i) →
        wX_layOut_89 post (wX_layOut_2 post (nI m) (nI n) f) (nI m) (nI i) z0 (sy' (nI i * 6 + nI i).toNatClampNeg) (nI i * 6 + nI i) (nI n) a su sy' ov un := by
      intro sy' z0 g1 g2 g3
      refine ⟨vd, nm_e ⟨v5, nm_e (nm_r (nI_1 i) (ih _ ?_))⟩⟩
      intro s hs c hc
      rw [dg, d5]
      by_cases c5 : c = 5
      · by_cases si : s = i
        · rw [si, c5, pk_uLs]
          have : xs_0 w (fun s => m.testBit s) (fun _ => 0) (fun _ => 0) i 5 = 0 := by unfold xs_0; simp
          rw [this]; rfl
        · rw [pk_uLn (by omega), pk_uLn (by omega)]
          exact g1 s (by omega) c hc
      · by_cases si : s = i
        · rw [si, pk_uLn (by omega)]
          by_cases ci : c = i
          · rw [ci, pk_uLs]; exact g3
          · rw [pk_uLn (by omega)]; exact g2 c (by omega) ci
        · rw [pk_uLn (by omega), pk_uLn (by omega)]
          exact g1 s (by omega) c hc
    refine xm_has hm (by omega) (fun b => ?_) (fun b => ?_)
    · refine loop_0 (fun f' j (s : Nat → Int64) => wX_layOut_19 post (wX_layOut_2 post (nI m) (nI n) f) (nI m) (nI i) 1 (nI n) f' (nI j) a su s ov un) (fun j sy' => (∀ s, s < i → ∀ c, (c < n ∨ c = 5) → sy' (6 * s + c) = Int64.ofInt (xs_0 w (fun s => m.testBit s) (fun _ => 0) (fun _ => 0) s c)) ∧ ∀ c, c < j → sy' (6 * i + c) = Int64.ofInt (-(ch_sw w i c : Int))) n sy ?_ ?_ ?_
      · exact ⟨h, fun c hc => absurd hc (by omega)⟩
      · rintro f' sy' ⟨g1, g2⟩
        refine br_t (nI_le (Nat.le_refl n) (by omega)) ⟨vd, br_f (by decide) (xm_tot c (by omega) (fin sy' _ g1 ?_ ?_))⟩
        · intro x hx xi
          rw [g2 x hx]
          unfold xs_0
          simp only [b, if_true]
          rw [if_neg (by omega), ch_N_off xi]
        · rw [g2 i hi, cv_pos (by omega), ← Int64.ofInt_add]
          congr 1
          unfold xs_0 ch_N
          simp only [b, if_true]
          rw [if_neg (by omega)]; omega
      · rintro f' j sy' hj ⟨g1, g2⟩ ih2
        have sl := ch_sw_le c.1 (i := i) (j := j) (by omega) (by omega)
        refine br_f (nI_ge hj (by omega)) (br_f (by decide) (xm_sw c (by omega) (by omega) ?_))
        have dj : (nI i * 6 + nI j).toNatClampNeg = 6 * i + j := by rw [ix_6]; exact nI_clamp (by omega)
        refine ⟨by rw [ix_6]; exact vp_in_nI (by omega) (by decide), nm_e (nm_r (nI_1 j) (ih2 _ ⟨?_, ?_⟩))⟩
        · intro s hs x hx
          rw [dj, pk_uLn (by omega)]; exact g1 s hs x hx
        · intro x hx
          rw [dj]
          by_cases e : x = j
          · rw [e, pk_uLs, cv_neg (by omega)]
          · rw [pk_uLn (by omega)]; exact g2 x (by omega)
    · refine loop_0 (fun f' j (s : Nat → Int64) => wX_layOut_19 post (wX_layOut_2 post (nI m) (nI n) f) (nI m) (nI i) 0 (nI n) f' (nI j) a su s ov un) (fun j sy' => (∀ s, s < i → ∀ c, (c < n ∨ c = 5) → sy' (6 * s + c) = Int64.ofInt (xs_0 w (fun s => m.testBit s) (fun _ => 0) (fun _ => 0) s c)) ∧ ∀ c, c < j → sy' (6 * i + c) = 0) n sy ?_ ?_ ?_
      · exact ⟨h, fun c hc => absurd hc (by omega)⟩
      · rintro f' sy' ⟨g1, g2⟩
        refine br_t (nI_le (Nat.le_refl n) (by omega)) ⟨vd, br_t rfl (fin sy' _ g1 ?_ ?_)⟩
        · intro x hx xi
          rw [g2 x hx]
          unfold xs_0
          simp only [b, if_false, Bool.false_eq_true]
          rw [if_neg (by omega), if_neg xi]; rfl
        · rw [g2 i hi]
          unfold xs_0
          simp only [b, if_false, Bool.false_eq_true]
          rw [if_neg (by omega), if_pos trivial]; rfl
      · rintro f' j sy' hj ⟨g1, g2⟩ ih2
        have dj : (nI i * 6 + nI j).toNatClampNeg = 6 * i + j := by rw [ix_6]; exact nI_clamp (by omega)
        refine br_f (nI_ge hj (by omega)) (br_t rfl ⟨by rw [ix_6]; exact vp_in_nI (by omega) (by decide), nm_e (nm_r (nI_1 j) (ih2 _ ⟨?_, ?_⟩))⟩)
        · intro s hs x hx
          rw [dj, pk_uLn (by omega)]; exact g1 s hs x hx
        · intro x hx
          rw [dj]
          by_cases e : x = j
          · rw [e, pk_uLs]
          · rw [pk_uLn (by omega)]; exact g2 x (by omega)
def xs_cl (sy : Nat → Int64) (i k : Nat) (d : Int64) (j x : Nat) : Int64 := if 6 * i ≤ x ∧ x < 6 * i + j then (sy (6 * k + k) * sy x - sy (6 * i + k) * sy (6 * k + (x - 6 * i))) / d else sy x
theorem xm_clear {post : SX → Prop} {i k : Nat} {d : Int64} (hi : i < 5) (hk : k < 5) (ne : i ≠ k) (nz : ¬ d = 0) (hp : post (nI n, a, su, xs_cl sy i k d 6, ov, un)) : wpX_clearFactor post (nI n, a, su, sy, ov, un) (nI i) (nI k) d := by
  have e1 : (nI k * 6 + nI k).toNatClampNeg = 6 * k + k := by rw [ix_6]; exact nI_clamp (by omega)
  have e2 : (nI i * 6 + nI k).toNatClampNeg = 6 * i + k := by rw [ix_6]; exact nI_clamp (by omega)
  refine br_f nz ⟨by rw [ix_6]; exact vp_in_nI (by omega) (by decide), nm_r (by rw [e1]) ⟨by rw [ix_6]; exact vp_in_nI (by omega) (by decide), nm_r (by rw [e2]) ?_⟩⟩
  refine loop_0 (fun f j (s : Nat → Int64) => wX_clearFactor_36 post (nI i) (nI k) d (sy (6 * k + k)) (sy (6 * i + k)) (nI n) f (nI j) a su s ov un) (fun j s => s = xs_cl sy i k d j) 6 sy ?_ ?_ ?_
  · funext x
    unfold xs_cl
    rw [if_neg (by omega)]
  · rintro f s rfl
    exact br_t (by decide) hp
  · rintro f j s hj rfl ih
    have f1 : (nI i * 6 + nI j).toNatClampNeg = 6 * i + j := by rw [ix_6]; exact nI_clamp (by omega)
    have f2 : (nI k * 6 + nI j).toNatClampNeg = 6 * k + j := by rw [ix_6]; exact nI_clamp (by omega)
    have v1 : vp_in (nI i * 6 + nI j) 30 := by rw [ix_6]; exact vp_in_nI (by omega) (by decide)
    refine br_f (nI_ge (b := 6) hj (by decide)) ⟨v1, by rw [ix_6]; exact vp_in_nI (by omega) (by decide), nm_e ⟨nz, v1, nm_e (nm_r (nI_1 j) (ih _ ?_))⟩⟩
    rw [f1, f2]
    have g1 : xs_cl sy i k d j (6 * i + j) = sy (6 * i + j) := by unfold xs_cl; rw [if_neg (by omega)]
    have g2 : xs_cl sy i k d j (6 * k + j) = sy (6 * k + j) := by unfold xs_cl; rw [if_neg (by omega)]
    rw [g1, g2]
    funext x
    by_cases e : x = 6 * i + j
    · rw [e, pk_uLs]
      unfold xs_cl
      rw [if_pos (by omega), show 6 * i + j - 6 * i = j by omega]
    · rw [pk_uLn e]
      unfold xs_cl
      by_cases q : 6 * i ≤ x ∧ x < 6 * i + j
      · rw [if_pos q, if_pos (by omega)]
      · rw [if_neg q, if_neg (by omega)]
def xe_mid (w : Nat → Nat) (U : Nat → Bool) (b r0 : Nat → Int) (k i r c : Nat) : Int := if r < i ∧ r ≠ k then xe_val w U b r0 (k + 1) r c else xe_val w U b r0 k r c
theorem xe_midT {w : Nat → Nat} {U : Nat → Bool} {b r0 : Nat → Int} {k i r c : Nat} (h : r < i ∧ r ≠ k) : xe_mid w U b r0 k i r c = xe_val w U b r0 (k + 1) r c := if_pos h
theorem xe_midF {w : Nat → Nat} {U : Nat → Bool} {b r0 : Nat → Int} {k i r c : Nat} (h : ¬ (r < i ∧ r ≠ k)) : xe_mid w U b r0 k i r c = xe_val w U b r0 k r c := if_neg h
theorem xm_elim {post : SX → Prop} (ok : ch_ok n w) {U : Nat → Bool} (h : sv_ok n w U) {z : Nat} (hz : z < n) (uz : U z = false) {b r0 : Nat → Int} (hb : ∀ s, s < n → (b s).natAbs ≤ 1)
    (hr : ∀ k t, k ≤ n → t < n → U t = true → (xe_rhs w U b r0 k t).natAbs ≤ 45) (h0 : xs_M n sy (xe_val w U b r0 0)) (hp : ∀ sy', xs_M n sy' (xe_val w U b r0 n) → post (nI n, a, su, sy', ov, un)) : wpX_eliminate post (nI n, a, su, sy, ov, un) := by
  have h5 := ok.2.1
  have bd : ∀ {k s c}, k ≤ n → s < n → (c < n ∨ c = 5) → (xe_val w U b r0 k s c).natAbs ≤ 98415000 := fun hk hs hc => xe_b ok h hz uz hb hr hk hs hc
  refine loop_0 (fun f k (s : Int64 × (Nat → Int64)) => wX_eliminate_4 post f s.1 (nI k) (nI n) a su s.2 ov un) (fun k s => s.1 = Int64.ofInt (ba_D (ch_N w) (ba_ops U k)) ∧ xs_M n s.2 (xe_val w U b r0 k)) n (1, sy) ?_ ?_ ?_
  · exact ⟨rfl, h0⟩
  · rintro f ⟨d, sy⟩ ⟨_, h⟩
    exact br_t (nI_le (Nat.le_refl n) (by omega)) (hp sy h)
  · rintro f k ⟨d, sy⟩ hk ⟨hd, hM⟩ ih
    dsimp only at hd hM
    subst hd
    refine br_f (nI_ge hk (by omega)) ?_
    have D := sv_DT ok h hz uz (k := k) (by omega)
    have l4 : (ba_ops U k).length ≤ 4 := by have := ba_ops_len U k; omega
    have p4 := ye_pow (a := (ba_ops U k).length) (b := 4) l4
    have p4' : (45 : Int) ^ 4 = 4100625 := by decide
    have Db : (ba_D (ch_N w) (ba_ops U k)).natAbs < 9223372036854775808 := by omega
    have Dn : ¬ Int64.ofInt (ba_D (ch_N w) (ba_ops U k)) = 0 := fun q => by have := (lz_eq0 Db).mp q; omega
    refine loop_0 (fun f' i (s : Nat → Int64) => wX_eliminate_15 post (wX_eliminate_4 post f) (Int64.ofInt (ba_D (ch_N w) (ba_ops U k))) (nI k) f' (nI i) (nI n) a su s ov un) (fun i s => xs_M n s (xe_mid w U b r0 k i)) n sy ?_ ?_ ?_
    · intro s hs c hc
      rw [hM s hs c hc, xe_midF (by omega)]
    · intro f' sy' hM'
      have e1 : (nI k * 6 + nI k).toNatClampNeg = 6 * k + k := by rw [ix_6]; exact nI_clamp (by omega)
      refine br_t (nI_le (Nat.le_refl n) (by omega)) ⟨by rw [ix_6]; exact vp_in_nI (by omega) (by decide), nm_e (nm_r (nI_1 k) (ih (_, sy') ⟨?_, ?_⟩))⟩
      · dsimp only
        rw [e1, hM' k hk k (.inl hk), xe_midF (by omega), xe_piv ok hz uz b r0 hk]
      · intro s hs c hc
        dsimp only
        rw [hM' s hs c hc]
        by_cases q : s = k
        · rw [xe_midF (by omega), q, xe_same ok hz uz b r0 hk]
        · rw [xe_midT ⟨hs, q⟩]
    · intro f' i sy' hi hM' ih2
      refine br_f (nI_ge hi (by omega)) ?_
      by_cases e : i = k
      · refine br_t (by rw [e]) (nm_r (nI_1 i) (ih2 _ ?_))
        intro s hs c hc
        rw [hM' s hs c hc]
        congr 1
        by_cases q : s < i ∧ s ≠ k
        · rw [xe_midT q, xe_midT (by omega)]
        · rw [xe_midF q, xe_midF (by omega)]
      · refine br_f (fun q => e ((nI_eq (by omega) (by omega)).mp q)) (xm_clear (by omega) (by omega) e Dn ?_)
        dsimp only
        refine nm_r (nI_1 i) (ih2 _ ?_)
        intro s hs c hc
        unfold xs_cl
        by_cases q : s = i
        · subst q
          rw [if_pos (by omega), xe_midT (by omega), show 6 * s + c - 6 * s = c by omega, hM' k hk k (.inl hk), hM' s hs c hc, hM' s hs k (.inl hk), hM' k hk c hc]
          rw [xe_midF (by omega), xe_midF (by omega), xe_midF (by omega), xe_midF (by omega), ← Int64.ofInt_mul, ← Int64.ofInt_mul, ← Int64.ofInt_sub]
          have st := xe_step ok h hz uz b r0 hk hs e hc
          have b1 := bd (k := k) (s := k) (c := k) (by omega) hk (.inl hk)
          have b2 := bd (k := k) (s := s) (c := c) (by omega) hs hc
          have b3 := bd (k := k) (s := s) (c := k) (by omega) hs (.inl hk)
          have b4 := bd (k := k) (s := k) (c := c) (by omega) hk hc
          refine lz_exact (by omega) st ?_ Db
          have m1 := ba_nm b1 b2
          have m2 := ba_nm b3 b4
          have m3 := Int.natAbs_sub_le (xe_val w U b r0 k k k * xe_val w U b r0 k s c) (xe_val w U b r0 k s k * xe_val w U b r0 k k c)
          omega
        · rw [if_neg (by omega), hM' s hs c hc]
          congr 1
          by_cases y : s < i ∧ s ≠ k
          · rw [xe_midT y, xe_midT (by omega)]
          · rw [xe_midF y, xe_midF (by omega)]
end
end
section
/-! chances, times, visits of the component -/
theorem ba_S_mono {f : Nat → Int} (h : ∀ c, 0 ≤ f c) {k m : Nat} (hk : k ≤ m) : ba_S f k ≤ ba_S f m := by
  induction m with
  | zero => rw [show k = 0 by omega]; exact Int.le_refl _
  | succ m ih =>
    rcases Nat.lt_or_ge m k with q | q
    · rw [show k = m + 1 by omega]; exact Int.le_refl _
    · have := ih q
      have := h m
      simp only [ba_S]; omega
theorem gr_rank_of {n : Nat} {w : Nat → Nat} (ok : ch_ok n w) {U G : Nat → Bool} {B : Nat → Prop}
    (hU : ∀ s, s < n → (U s = true ↔ (gr_L n (fun x y => 0 < ch_sw w x y) (fun y => G y = true) B (n - 1) s ∧ ¬ G s = true))) : sv_rank n w U := by
  have h1 := ok.1
  have h5 := ok.2.1
  obtain ⟨rk, hr⟩ := gr_ranks (n := n) (E := fun x y => 0 < ch_sw w x y) (G := fun y => G y = true) (B := B)
  have fin : ∀ z, z < n → U z = false → sv_rank n w U := by
    intro z hz uz
    refine ⟨z, rk, hz, uz, ?_, ?_⟩
    · intro s hs us
      obtain ⟨l, ng⟩ := (hU s hs).mp us
      obtain ⟨r1, r2, _⟩ := hr s hs ng l
      exact ⟨r1, by omega⟩
    · intro s hs us
      obtain ⟨l, ng⟩ := (hU s hs).mp us
      obtain ⟨_, _, _, j, hj, e, q⟩ := hr s hs ng l
      refine ⟨j, hj, e, fun uj => ?_⟩
      rcases q with q | q
      · exact absurd q ((hU j hj).mp uj).2
      · exact q.2
  by_cases g : ∃ y, y < n ∧ G y = true
  · obtain ⟨y, hy, gy⟩ := g
    refine fin y hy ?_
    cases e : U y
    · rfl
    · exact absurd gy ((hU y hy).mp e).2
  · refine fin 0 (by omega) ?_
    cases e : U 0
    · rfl
    · obtain ⟨m, y, hy, gy, _⟩ := gr_LR (T := fun _ => False) (fun _ z => z.elim) _ 0 (by omega) ((hU 0 (by omega)).mp e).1
      exact absurd ⟨y, hy, gy⟩ g
theorem xe_val0 (w : Nat → Nat) (U : Nat → Bool) (b r0 : Nat → Int) (s c : Nat) : xe_val w U b r0 0 s c = xs_0 w U b r0 s c := by
  unfold xe_val xs_0
  by_cases us : U s = true
  · rw [if_pos us]
    show xe_vec w U b r0 0 c s = _
    unfold xe_vec xe_rhs
    simp only [ba_S, us, if_true, Int.sub_zero]
    by_cases c5 : c = 5
    · simp [c5]
    · simp [c5]
  · rw [if_neg us]
    show 1 * xe_id b s c = _
    unfold xe_id
    simp only [us, if_false, Int.one_mul]
    by_cases c5 : c = 5 <;> simp [c5]
theorem xe_fin_d {n : Nat} {w : Nat → Nat} (ok : ch_ok n w) {U : Nat → Bool} (h : sv_ok n w U) (b r0 : Nat → Int) {s : Nat} (hs : s < n) : xe_val w U b r0 n s s = sv_D n w U := by
  have h5 := ok.2.1
  unfold xe_val
  by_cases us : U s = true
  · rw [if_pos us]
    have e : xe_vec w U b r0 n s = fun t => ch_N w t s := by
      funext t
      unfold xe_vec
      rw [if_neg (by omega), if_neg (fun q => by rw [us] at q; exact absurd q.2 (by decide))]
    rw [e]
    obtain ⟨g, T⟩ := h
    have := (T n (Nat.le_refl n)).2.2.2.1 s hs us s hs us
    rw [if_pos rfl] at this
    exact this
  · rw [if_neg us]
    unfold xe_id
    rw [if_neg (by omega), if_pos rfl, Int.mul_one]
    rfl
theorem xe_rhs_sw {n : Nat} {w : Nat → Nat} {U : Nat → Bool} (b r0 : Nat → Int) {k t : Nat} (ut : U t = true) : xe_rhs w U b r0 k t = r0 t + ba_S (fun m => if U m = true then 0 else b m * (ch_sw w t m : Int)) k := by
  unfold xe_rhs
  have e : ba_S (fun m => if U m = true then 0 else b m * ch_N w t m) k = ba_S (fun m => (-1) * (if U m = true then 0 else b m * (ch_sw w t m : Int))) k := by
    apply ba_S_congr
    intro m _
    by_cases um : U m = true
    · simp [um]
    · have : m ≠ t := fun q => um (q ▸ ut)
      rw [if_neg um, if_neg um, ch_N_off this]; grind
  rw [e, ba_S_mul]; omega
theorem xe_fin_r {n : Nat} {w : Nat → Nat} (ok : ch_ok n w) {U : Nat → Bool} (h : sv_ok n w U) (b r0 v : Nat → Int) (hv : ∀ t, t < n → U t = true → r0 t + ba_S (fun m => if U m = true then 0 else b m * (ch_sw w t m : Int)) n = v t) {s : Nat} (hs : s < n) :
    xe_val w U b r0 n s 5 = if U s = true then sv_F n w U s v else sv_D n w U * b s := by
  unfold xe_val
  by_cases us : U s = true
  · rw [if_pos us, if_pos us]
    refine sv_congr h hs us (v := xe_vec w U b r0 n 5) (u := v) ?_
    intro t ht ut
    unfold xe_vec
    rw [if_pos rfl, xe_rhs_sw (n := n) b r0 ut, hv t ht ut]
  · rw [if_neg us, if_neg us]
    unfold xe_id
    rw [if_pos rfl]; rfl
theorem sv_Db {n : Nat} {w : Nat → Nat} (ok : ch_ok n w) {U : Nat → Bool} (r : sv_rank n w U) : 0 < sv_D n w U ∧ sv_D n w U ≤ 4100625 := by
  have h5 := ok.2.1
  have h := sv_of ok r
  obtain ⟨z, _, hz, uz, _⟩ := r
  have d := sv_DT ok h hz uz (k := n) (Nat.le_refl n)
  have l : (ba_ops U n).length ≤ 4 := by have := ba_ops_lenz uz n hz; omega
  have p4 := ye_pow (a := (ba_ops U n).length) (b := 4) l
  have p4' : (45 : Int) ^ 4 = 4100625 := by decide
  exact ⟨d.1, by show ba_D (ch_N w) (ba_ops U n) ≤ _; omega⟩
theorem sv_Fb {n : Nat} {w : Nat → Nat} (ok : ch_ok n w) {U : Nat → Bool} {s : Nat} (hs : s < n) (us : U s = true) {v : Nat → Int} (hv : ∀ t, t < n → U t = true → (v t).natAbs ≤ 45) : (sv_F n w U s v).natAbs ≤ 98415000 :=
  ba_Fb (Nat.le_refl n) hs us (fun a ha _ b hb _ => ch_N_b ok ha hb) hv
section
variable {n : Nat} {w : Nat → Nat} {a su : Nat → Int32} {sy ov un : Nat → Int64}
/-- after the right sides are in, the table is solved -/
theorem xm_solve {post : SX → Prop} (c : cr_X n w a su) {U : Nat → Bool} (r : sv_rank n w U) {b r0 v : Nat → Int} (hb : ∀ s, s < n → (b s).natAbs ≤ 1)
    (hr : ∀ k t, k ≤ n → t < n → U t = true → (r0 t + ba_S (fun m => if U m = true then 0 else b m * (ch_sw w t m : Int)) k).natAbs ≤ 45)
    (hv : ∀ t, t < n → U t = true → r0 t + ba_S (fun m => if U m = true then 0 else b m * (ch_sw w t m : Int)) n = v t)
    (h0 : xs_M n sy (xs_0 w U b r0)) (hp : ∀ sy', (∀ s, s < n → sy' (6 * s + s) = Int64.ofInt (sv_D n w U) ∧ sy' (6 * s + 5) = Int64.ofInt (if U s = true then sv_F n w U s v else sv_D n w U * b s)) → post (nI n, a, su, sy', ov, un)) : wpX_eliminate post (nI n, a, su, sy, ov, un) := by
  have h := sv_of c.1 r
  obtain ⟨z, _, hz, uz, _⟩ := r
  refine xm_elim c.1 h hz uz (b := b) (r0 := r0) hb ?_ ?_ ?_
  · intro k t hk ht ut
    rw [xe_rhs_sw (n := n) b r0 ut]; exact hr k t hk ht ut
  · intro s hs c' hc
    rw [h0 s hs c' hc, xe_val0]
  · intro sy' hM
    refine hp sy' (fun s hs => ⟨?_, ?_⟩)
    · rw [hM s hs s (.inl hs), xe_fin_d c.1 h b r0 hs]
    · rw [hM s hs 5 (.inr rfl), xe_fin_r c.1 h b r0 v hv hs]
theorem xm_chances {post : SX → Prop} (c : cr_X n w a su) {g b m : Nat} {B : Nat → Prop} (hg : g < 2 ^ n) (hb : bm_is n b B)
    (hm : bm_is n m (fun i => gr_L n (fun x y => 0 < ch_sw w x y) (fun y => g.testBit y = true) B (n - 1) i ∧ ¬ g.testBit i = true))
    (hp : sv_rank n w (fun s => m.testBit s) → ∀ sy', (∀ s, s < n → sy' (6 * s + s) = Int64.ofInt (sv_D n w (fun s => m.testBit s)) ∧ sy' (6 * s + 5) = Int64.ofInt (sv_H n w (fun s => m.testBit s) (fun s => g.testBit s) s)) → post (nI n, a, su, sy', ov, un)) : wpX_solveChances post (nI n, a, su, sy, ov, un) (nI g) (nI b) := by
  have h5 := c.1.2.1
  have hgm : bm_is n g (fun y => g.testBit y = true) := ⟨hg, fun _ _ => Iff.rfl⟩
  have r : sv_rank n w (fun s => m.testBit s) := gr_rank_of c.1 (G := fun y => g.testBit y) (B := B) (fun s hs => hm.2 s hs)
  have dis : ∀ s, s < n → m.testBit s = true → g.testBit s = false := fun s hs t => by
    have := ((hm.2 s hs).mp t).2
    simpa using this
  unfold wpX_solveChances
  dsimp only
  refine xm_lead c hgm hb hm (xm_layOut c (bm_lt hm h5) (fun sy1 h1 => ?_))
  dsimp only
  refine loop_0 (fun f i (s : Nat → Int64) => wX_solveChances_15 post (nI g) (nI n) f (nI i) a su s ov un) (fun i s => xs_M n s (xs_0 w (fun s => m.testBit s) (fun x => if x < i ∧ g.testBit x = true then 1 else 0) (fun _ => 0))) n sy1 ?_ ?_ ?_
  · intro s hs c' hc
    rw [h1 s hs c' hc]
    unfold xs_0
    simp
  · intro f sy2 h2
    refine br_t (nI_le (Nat.le_refl n) (by omega)) ?_
    have nn : ∀ t x, 0 ≤ (if m.testBit x = true then 0 else (if x < n ∧ g.testBit x = true then (1 : Int) else 0) * (ch_sw w t x : Int)) := by
      intro t x
      split
      · omega
      · split
        · omega
        · simp
    have sm : ∀ t, ba_S (fun x => if m.testBit x = true then 0 else (if x < n ∧ g.testBit x = true then (1 : Int) else 0) * (ch_sw w t x : Int)) n = sv_v n w (fun s => g.testBit s) t := by
      intro t
      apply ba_S_congr
      intro x hx
      by_cases mx : m.testBit x = true
      · rw [if_pos mx]; simp [dis x hx mx]
      · rw [if_neg mx]
        by_cases gx : g.testBit x = true
        · rw [if_pos ⟨hx, gx⟩, if_pos gx]; omega
        · rw [if_neg (fun q => gx q.2), if_neg gx]; simp
    refine xm_solve c r (b := fun x => if x < n ∧ g.testBit x = true then 1 else 0) (r0 := fun _ => 0) (v := sv_v n w (fun s => g.testBit s)) ?_ ?_ ?_ h2 ?_
    · intro s _
      split <;> decide
    · intro k t hk ht _
      have u1 := ba_S_mono (nn t) hk
      have u2 : 0 ≤ ba_S (fun x => if m.testBit x = true then 0 else (if x < n ∧ g.testBit x = true then (1 : Int) else 0) * (ch_sw w t x : Int)) k := ba_S_nonneg (fun x _ => nn t x)
      rw [sm t] at u1
      have u3 := sv_v_le c.1 (fun s => g.testBit s) ht
      have u4 := ch_tot_le c.1 (i := t) (by omega)
      omega
    · intro t _ _
      rw [sm t]; omega
    · intro sy' h'
      refine hp r sy' (fun s hs => ⟨(h' s hs).1, ?_⟩)
      rw [(h' s hs).2]
      congr 1
      unfold sv_H
      dsimp only
      by_cases ms : m.testBit s = true
      · rw [if_pos ms, if_pos ms]
      · rw [if_neg ms, if_neg ms]
        by_cases gs : g.testBit s = true
        · rw [if_pos ⟨hs, gs⟩, if_pos gs, Int.mul_one]
        · rw [if_neg (fun q => gs q.2), if_neg gs, Int.mul_zero]
  · intro f i sy2 hi h2 ih
    refine br_f (nI_ge hi (by omega)) (xm_has (bm_lt hgm h5) (by omega) (fun t => ?_) (fun t => ?_))
    · have d5 : (nI i * 6 + 5).toNatClampNeg = 6 * i + 5 := by
        rw [show nI i * 6 + 5 = nI (6 * i + 5) from ix_6 i 5]; exact nI_clamp (by omega)
      have v5 : vp_in (nI i * 6 + 5) 30 := by rw [show nI i * 6 + 5 = nI (6 * i + 5) from ix_6 i 5]; exact vp_in_nI (by omega) (by decide)
      refine br_f (by decide) ⟨v5, nm_e (nm_r (nI_1 i) (ih _ ?_))⟩
      intro s hs c' hc
      rw [d5]
      by_cases q : 6 * s + c' = 6 * i + 5
      · have c5 : c' = 5 := by omega
        have si : s = i := by omega
        rw [q, pk_uLs, c5, si]
        have mi : ¬ m.testBit i = true := fun z => by rw [dis i hi z] at t; cases t
        unfold xs_0
        simp only [if_true, mi, if_false, t, and_true, Nat.lt_succ_self]
        rfl
      · rw [pk_uLn q, h2 s hs c' hc]
        congr 1
        unfold xs_0
        by_cases c5 : c' = 5
        · have si : s ≠ i := by omega
          rw [if_pos c5, if_pos c5]
          have : (s < i ∧ g.testBit s = true) = (s < i + 1 ∧ g.testBit s = true) := by
            apply propext
            constructor
            · rintro ⟨x, y⟩; exact ⟨by omega, y⟩
            · rintro ⟨x, y⟩; exact ⟨by omega, y⟩
          simp only [this]
        · rw [if_neg c5, if_neg c5]
    · refine br_t rfl (nm_r (nI_1 i) (ih _ ?_))
      intro s hs c' hc
      rw [h2 s hs c' hc]
      congr 1
      unfold xs_0
      have : (s < i ∧ g.testBit s = true) = (s < i + 1 ∧ g.testBit s = true) := by
        apply propext
        constructor
        · rintro ⟨x, y⟩; exact ⟨by omega, y⟩
        · rintro ⟨x, y⟩
          have : s ≠ i := fun e => by rw [e, t] at y; cases y
          exact ⟨by omega, y⟩
      simp only [this]
theorem xm_times {post : SX → Prop} (c : cr_X n w a su) {g m : Nat} (hg : g < 2 ^ n)
    (hm : bm_is n m (fun i => gr_L n (fun x y => 0 < ch_sw w x y) (fun y => g.testBit y = true) (fun _ => False) (n - 1) i ∧ ¬ g.testBit i = true))
    (hp : sv_rank n w (fun s => m.testBit s) → ∀ sy', (∀ s, s < n → sy' (6 * s + s) = Int64.ofInt (sv_D n w (fun s => m.testBit s)) ∧ sy' (6 * s + 5) = Int64.ofInt (if m.testBit s = true then sv_F n w (fun s => m.testBit s) s (fun t => (ch_tot w t : Int)) else 0)) → post (nI n, a, su, sy', ov, un)) : wpX_solveTimes post (nI n, a, su, sy, ov, un) (nI g) := by
  have h5 := c.1.2.1
  have hgm : bm_is n g (fun y => g.testBit y = true) := ⟨hg, fun _ _ => Iff.rfl⟩
  have r : sv_rank n w (fun s => m.testBit s) := gr_rank_of c.1 (G := fun y => g.testBit y) (B := fun _ => False) (fun s hs => hm.2 s hs)
  unfold wpX_solveTimes
  dsimp only
  refine xm_lead (b := 0) c hgm (bm_zero n) hm (xm_layOut c (bm_lt hm h5) (fun sy1 h1 => ?_))
  dsimp only
  refine loop_0 (fun f i (s : Nat → Int64) => wX_solveTimes_14 post (nI m) (nI n) f (nI i) a su s ov un) (fun i s => xs_M n s (xs_0 w (fun s => m.testBit s) (fun _ => 0) (fun x => if x < i then (ch_tot w x : Int) else 0))) n sy1 ?_ ?_ ?_
  · intro s hs c' hc
    rw [h1 s hs c' hc]
    unfold xs_0
    simp
  · intro f sy2 h2
    refine br_t (nI_le (Nat.le_refl n) (by omega)) ?_
    have z0 : ∀ t k, ba_S (fun x => if m.testBit x = true then 0 else (0 : Int) * (ch_sw w t x : Int)) k = 0 := fun t k => ba_S_zero (fun x _ => by simp)
    refine xm_solve c r (b := fun _ => 0) (r0 := fun x => if x < n then (ch_tot w x : Int) else 0) (v := fun t => (ch_tot w t : Int)) ?_ ?_ ?_ h2 ?_
    · intro s _; decide
    · intro k t _ ht _
      rw [z0, if_pos ht]
      have u4 := ch_tot_le c.1 (i := t) (by omega)
      omega
    · intro t ht _
      rw [z0, if_pos ht]; omega
    · intro sy' h'
      refine hp r sy' (fun s hs => ⟨(h' s hs).1, ?_⟩)
      rw [(h' s hs).2, Int.mul_zero]
  · intro f i sy2 hi h2 ih
    refine br_f (nI_ge hi (by omega)) (xm_has (bm_lt hm h5) (by omega) (fun t => ?_) (fun t => ?_))
    · have d5 : (nI i * 6 + 5).toNatClampNeg = 6 * i + 5 := by
        rw [show nI i * 6 + 5 = nI (6 * i + 5) from ix_6 i 5]; exact nI_clamp (by omega)
      have v5 : vp_in (nI i * 6 + 5) 30 := by rw [show nI i * 6 + 5 = nI (6 * i + 5) from ix_6 i 5]; exact vp_in_nI (by omega) (by decide)
      have u4 := ch_tot_le c.1 (i := i) (by omega)
      refine br_f (by decide) (xm_tot c (by omega) ⟨v5, nm_e (nm_r (nI_1 i) (ih _ ?_))⟩)
      intro s hs c' hc
      rw [d5]
      by_cases q : 6 * s + c' = 6 * i + 5
      · have c5 : c' = 5 := by omega
        have si : s = i := by omega
        rw [q, pk_uLs, c5, si, cv_pos (by omega)]
        unfold xs_0
        simp only [if_true, t, Nat.lt_succ_self]
      · rw [pk_uLn q, h2 s hs c' hc]
        congr 1
        unfold xs_0
        by_cases c5 : c' = 5
        · have si : s ≠ i := by omega
          rw [if_pos c5, if_pos c5]
          have : (s < i) = (s < i + 1) := by
            apply propext
            constructor <;> intro <;> omega
          simp only [this]
        · rw [if_neg c5, if_neg c5]
    · refine br_t rfl (nm_r (nI_1 i) (ih _ ?_))
      intro s hs c' hc
      rw [h2 s hs c' hc]
      congr 1
      unfold xs_0
      by_cases si : s = i
      · rw [si]; simp [t]
      · have : (s < i) = (s < i + 1) := by
          apply propext
          constructor <;> intro <;> omega
        simp only [this]
theorem xm_visits {post : SX → Prop} (c : cr_X n w a su) {j m : Nat} (hj : j < n)
    (hm : bm_is n m (fun i => gr_L n (fun x y => 0 < ch_sw w x y) (fun y => y = j) (fun _ => False) (n - 1) i)) (r : sv_rank n w (fun s => m.testBit s))
    (hp : ∀ sy', (∀ s, s < n → sy' (6 * s + s) = Int64.ofInt (sv_D n w (fun s => m.testBit s)) ∧ sy' (6 * s + 5) = Int64.ofInt (if m.testBit s = true then sv_F n w (fun s => m.testBit s) s (fun t => if t = j then (ch_tot w j : Int) else 0) else 0)) → post (nI n, a, su, sy', ov, un)) : wpX_solveVisits post (nI n, a, su, sy, ov, un) (nI j) := by
  have h5 := c.1.2.1
  have mj : m.testBit j = true := (hm.2 j hj).mpr (gr_L_up (Nat.zero_le _) (show gr_L n _ _ _ 0 j from rfl))
  obtain ⟨l, hl⟩ := bm_exists n (fun i => gr_L n (fun x y => 0 < ch_sw w x y) (fun y => y = j) (fun _ => False) (n - 1) i ∧ ¬ i = j)
  have lm : l ||| 2 ^ j = m := by
    refine bm_ext (bm_or2 hl (bm_one hj)) hm (fun i _ => ⟨?_, ?_⟩)
    · rintro (q | q)
      · exact q.1
      · rw [q]; exact (hm.2 j hj).mp mj
    · intro q
      by_cases e : i = j
      · exact .inr e
      · exact .inl ⟨q, e⟩
  have d5 : (nI j * 6 + 5).toNatClampNeg = 6 * j + 5 := by
    rw [show nI j * 6 + 5 = nI (6 * j + 5) from ix_6 j 5]; exact nI_clamp (by omega)
  have v5 : vp_in (nI j * 6 + 5) 30 := by rw [show nI j * 6 + 5 = nI (6 * j + 5) from ix_6 j 5]; exact vp_in_nI (by omega) (by decide)
  have u4 := ch_tot_le c.1 (i := j) (by omega)
  unfold wpX_solveVisits
  dsimp only
  refine nm_r (bm_shl j (by omega)) (xm_lead (b := 0) c (bm_one hj) (bm_zero n) hl ?_)
  rw [bm_or, lm]
  refine nm_e (xm_layOut c (bm_lt hm h5) (fun sy1 h1 => ?_))
  dsimp only
  refine xm_tot c (by omega) ⟨v5, nm_e ?_⟩
  rw [d5]
  have z0 : ∀ t k, ba_S (fun x => if m.testBit x = true then 0 else (0 : Int) * (ch_sw w t x : Int)) k = 0 := fun t k => ba_S_zero (fun x _ => by simp)
  refine xm_solve c r (b := fun _ => 0) (r0 := fun t => if t = j then (ch_tot w j : Int) else 0) (v := fun t => if t = j then (ch_tot w j : Int) else 0) ?_ ?_ ?_ ?_ ?_
  · intro s _; decide
  · intro k t _ ht _
    rw [z0]
    split <;> omega
  · intro t ht _
    rw [z0]; omega
  · intro s hs c' hc
    by_cases q : 6 * s + c' = 6 * j + 5
    · have c5 : c' = 5 := by omega
      have si : s = j := by omega
      rw [q, pk_uLs, c5, si, cv_pos (by omega)]
      unfold xs_0
      simp only [if_true, mj]
    · rw [pk_uLn q, h1 s hs c' hc]
      congr 1
      unfold xs_0
      by_cases c5 : c' = 5
      · have si : s ≠ j := by omega
        rw [if_pos c5, if_pos c5]
        simp [si]
      · rw [if_neg c5, if_neg c5]
  · intro sy' h'
    refine hp sy' (fun s hs => ⟨(h' s hs).1, ?_⟩)
    rw [(h' s hs).2, Int.mul_zero]
theorem xm_solved {post : Int64 → Prop} {i : Nat} (hi : i < 5) {p q : Int} (e1 : sy (6 * i + 5) = Int64.ofInt p) (e2 : sy (6 * i + i) = Int64.ofInt q) (hp : 0 ≤ p) (hq : 0 < q) (bp : p.natAbs < 9223372036854775808) (bq : q < 9223372036854775808) {x y : Int64} (f : fp_is x y p q) {part : Int32} (h0 : part = 0 → post x) (h1 : ¬ part = 0 → post y) : wpX_solved post (nI n, a, su, sy, ov, un) (nI i) part := by
  have d5 : (nI i * 6 + 5).toNatClampNeg = 6 * i + 5 := by
    rw [show nI i * 6 + 5 = nI (6 * i + 5) from ix_6 i 5]; exact nI_clamp (by omega)
  have v5 : vp_in (nI i * 6 + 5) 30 := by rw [show nI i * 6 + 5 = nI (6 * i + 5) from ix_6 i 5]; exact vp_in_nI (by omega) (by decide)
  have di : (nI i * 6 + nI i).toNatClampNeg = 6 * i + i := by rw [ix_6]; exact nI_clamp (by omega)
  unfold wpX_solved
  dsimp only
  refine ⟨v5, by rw [ix_6]; exact vp_in_nI (by omega) (by decide), ?_⟩
  rw [d5, di, e1, e2]
  exact xm_part hp hq bp bq f h0 h1
end
end
section
/-! the reference's table of fractions -/
theorem fp_int {t : Int} (h : t.natAbs < 9223372036854775808) : fp_is (Int64.ofInt t) (Int64.ofInt 1) t 1 := by
  have l := fr_le t (q := 1) (by decide)
  have d := fr_den_pos t 1
  obtain ⟨m, hm, e1, e2⟩ := fr_ex t (q := 1) (by decide)
  have dd : ((Rat.divInt t 1).den : Int) = 1 := by omega
  rw [dd, Int.one_mul] at e2
  rw [← e2, Int.mul_one] at e1
  unfold fp_is
  rw [dd, ← e1]
  exact ⟨rfl, rfl, h, by decide⟩
def ys_c (w : Nat → Nat) (U : Nat → Bool) (v : Nat → Int) (c t : Nat) : Int := if c = 5 then v t else if U c = true then ch_N w t c else 0
def ys_P (w : Nat → Nat) (U : Nat → Bool) (v t : Nat → Int) (k s c : Nat) : Int :=
  if U s = true then ye_mn w U k s * ba_F (ch_N w) (ba_ops U k) s (ys_c w U v c) else if c = 5 then t s else if c = s then 1 else 0
def ys_Q (w : Nat → Nat) (U : Nat → Bool) (k s : Nat) : Int := if U s = true then ye_md w U k s * ba_D (ch_N w) (ba_ops U k) else 1
def ys_M (n : Nat) (up dn : Nat → Int64) (P : Nat → Nat → Int) (Q : Nat → Int) : Prop := ∀ s, s < n → ∀ c, (c < n ∨ c = 5) → fp_is (up (6 * s + c)) (dn (6 * s + c)) (P s c) (Q s)
theorem ys_Qpos {n : Nat} {w : Nat → Nat} (ok : ch_ok n w) {U : Nat → Bool} (h : sv_ok n w U) {k s : Nat} (hk : k ≤ n) (hs : s < n) : 0 < ys_Q w U k s := by
  unfold ys_Q ye_md
  by_cases us : U s = true
  · rw [if_pos us]
    obtain ⟨g, T⟩ := h
    have t := ch_tot_pos w s
    refine Int.mul_pos (Int.mul_pos (by omega) ?_) (T k hk).1
    split
    · exact (T s (by omega)).1
    · decide
  · rw [if_neg us]; decide
section
variable {n : Nat} {w : Nat → Nat} {a : Nat → Int32} {fa fb : Int64} {up dn : Nat → Int64} {op : Nat → Int32} {tp bt nt nb : Nat → Int64}
theorem ym_put {post : SY → Prop} {st : Int32} {i : Int32} {k : Nat} (hi : i = nI k) (hk : k < 30) {p q : Int} (hq : 0 < q) (bp : p.natAbs < 9223372036854775808) (bq : q < 9223372036854775808)
    (hp : ∀ x y, fp_is x y p q → post (st, x, y, a, vp_updL up k x, vp_updL dn k y, op, tp, bt, nt, nb)) : wpY_put post (st, fa, fb, a, up, dn, op, tp, bt, nt, nb) i (Int64.ofInt p) (Int64.ofInt q) := by
  subst hi
  unfold wpY_put
  dsimp only
  refine ym_reduce hq bp bq (fun x y f => ?_)
  have e : (nI k).toNatClampNeg = k := nI_clamp (by omega)
  dsimp only
  rw [e]
  exact ⟨vp_in_nI hk (by decide), nm_e ⟨vp_in_nI hk (by decide), nm_e (hp x y f)⟩⟩
/-- a row of an unknown state: the steps are taken off -/
def ys_R (w : Nat → Nat) (U : Nat → Bool) (each : Nat) (t : Nat → Int) (i j : Nat) : Int := (each : Int) * (ch_tot w i : Int) + ba_S (fun x => if U x = true then 0 else t x * (ch_sw w i x : Int)) j
theorem ys_R_b (c : ch_ok n w) {U : Nat → Bool} {each : Nat} (he : each ≤ 1) {t : Nat → Int} (ht : ∀ s, s < n → t s = 0 ∨ t s = 1) {i : Nat} (hi : i < n) : ∀ j, j ≤ n → 0 ≤ ys_R w U each t i j ∧ ys_R w U each t i j ≤ 90 := by
  intro j hj
  have h5 := c.2.1
  have tl := ch_tot_le c (i := i) (by omega)
  have e : ba_S (fun x => if U x = true then 0 else t x * (ch_sw w i x : Int)) j ≤ ba_S (fun x => (ch_sw w i x : Int)) j := by
    apply ba_S_le
    intro x hx
    split
    · omega
    · rcases ht x (by omega) with q | q <;> rw [q] <;> omega
  have e2 := ba_S_mono (f := fun x => (ch_sw w i x : Int)) (fun x => by omega) hj
  rw [ch_sum c hi] at e2
  have e3 : 0 ≤ ba_S (fun x => if U x = true then 0 else t x * (ch_sw w i x : Int)) j := by
    apply ba_S_nonneg
    intro x hx
    split
    · omega
    · rcases ht x (by omega) with q | q <;> rw [q] <;> omega
  have m : (each : Int) * (ch_tot w i : Int) ≤ 1 * (ch_tot w i : Int) := Int.mul_le_mul_of_nonneg_right (by omega) (by omega)
  have m2 : 0 ≤ (each : Int) * (ch_tot w i : Int) := Int.mul_nonneg (by omega) (by omega)
  unfold ys_R
  omega
theorem ym_take {post : SY → Prop} (c : cr_Y n w a) {U : Nat → Bool} {each : Nat} (he : each ≤ 1) {t : Nat → Int} (ht : ∀ s, s < n → t s = 0 ∨ t s = 1) (hop : ∀ s, s < n → (op s = 0 ↔ U s = false))
    (htp : ∀ s, s < n → tp s = Int64.ofInt (t s)) (hbt : ∀ s, s < n → bt s = Int64.ofInt 1) {i : Nat} (hi : i < n)
    (h0 : ∀ c, c < n → fp_is (up (6 * i + c)) (dn (6 * i + c)) (if i = c then 1 else 0) 1) (h5 : fp_is (up (6 * i + 5)) (dn (6 * i + 5)) (each : Int) 1)
    (hp : ∀ fa' fb' up' dn', (∀ x, (x < 6 * i ∨ 6 * i + 6 ≤ x) → up' x = up x ∧ dn' x = dn x) → (∀ c, c < n → fp_is (up' (6 * i + c)) (dn' (6 * i + c)) (if U c = true then ch_N w i c else if i = c then (ch_tot w i : Int) else 0) (ch_tot w i : Int)) → fp_is (up' (6 * i + 5)) (dn' (6 * i + 5)) (ys_R w U each t i n) (ch_tot w i : Int) → post (nI n, fa', fb', a, up', dn', op, tp, bt, nt, nb)) :
    wpY_takeSteps post (nI n, fa, fb, a, up, dn, op, tp, bt, nt, nb) (nI i) := by
  have n5 := c.1.2.1
  have tl := ch_tot_le c.1 (i := i) (by omega)
  have t1 := ch_tot_pos w i
  have d5 : (6 * nI i + 5).toNatClampNeg = 6 * i + 5 := by
    rw [show 6 * nI i + 5 = nI (6 * i + 5) from ix_6' i 5]; exact nI_clamp (by omega)
  have v5 : vp_in (6 * nI i + 5) 30 := by rw [show 6 * nI i + 5 = nI (6 * i + 5) from ix_6' i 5]; exact vp_in_nI (by omega) (by decide)
  refine loop_0 (fun f j (s : Int64 × Int64 × (Nat → Int64) × (Nat → Int64)) => wY_takeSteps_2 post (nI i) f (nI j) (nI n) s.1 s.2.1 a s.2.2.1 s.2.2.2 op tp bt nt nb)
    (fun j s => (∀ x, (x < 6 * i ∨ 6 * i + 6 ≤ x) → s.2.2.1 x = up x ∧ s.2.2.2 x = dn x) ∧ (∀ c, c < j → fp_is (s.2.2.1 (6 * i + c)) (s.2.2.2 (6 * i + c)) (if U c = true then ch_N w i c else if i = c then (ch_tot w i : Int) else 0) (ch_tot w i : Int)) ∧ (∀ c, j ≤ c → c < n → fp_is (s.2.2.1 (6 * i + c)) (s.2.2.2 (6 * i + c)) (if i = c then 1 else 0) 1) ∧ fp_is (s.2.2.1 (6 * i + 5)) (s.2.2.2 (6 * i + 5)) (ys_R w U each t i j) (ch_tot w i : Int)) n (fa, fb, up, dn) ?_ ?_ ?_
  · refine ⟨fun x _ => ⟨rfl, rfl⟩, fun c hc => absurd hc (by omega), fun c _ hc => h0 c hc, ?_⟩
    refine fp_eq (by decide) (by omega) ?_ h5
    unfold ys_R
    simp [ba_S]
  · rintro f ⟨fa, fb, up', dn'⟩ ⟨g1, g2, _, g4⟩
    exact br_t (nI_le (Nat.le_refl n) (by omega)) (hp fa fb up' dn' g1 g2 g4)
  · rintro f j ⟨fa, fb, up', dn'⟩ hj ⟨g1, g2, g3, g4⟩ ih
    dsimp only at g1 g2 g3 g4
    have ej : (nI j).toNatClampNeg = j := nI_clamp (by omega)
    have sl := ch_sw_le c.1 (i := i) (j := j) (by omega) (by omega)
    have dj : (6 * nI i + nI j).toNatClampNeg = 6 * i + j := by rw [ix_6']; exact nI_clamp (by omega)
    have vj : vp_in (6 * nI i + nI j) 30 := by rw [ix_6']; exact vp_in_nI (by omega) (by decide)
    have v5' : vp_in (nI j) 5 := vp_in_nI (by omega) (by decide)
    refine br_f (nI_ge hj (by omega)) ⟨v5', ?_⟩
    dsimp only
    rw [ej]
    by_cases uj : U j = true
    · refine br_f (fun z => by have := (hop j hj).mp z; rw [uj] at this; cases this) ⟨vj, vj, ?_⟩
      refine ym_sw c (by omega) (by omega) (ym_tot c (by omega) ?_)
      rw [dj, cv_neg (by omega), cv_pos (by omega)]
      refine ym_addS (g3 j (Nat.le_refl j) hj) (by decide) (by omega) (by omega) ?_ (by omega) (fun x y f => ?_)
      · split <;> omega
      · dsimp only
        refine ⟨vj, nm_e ⟨vj, nm_e (nm_r (nI_1 j) (ih (x, y, vp_updL up' (6 * i + j) x, vp_updL dn' (6 * i + j) y) ⟨?_, ?_, ?_, ?_⟩))⟩⟩
        · intro z hz
          dsimp only
          rw [pk_uLn (by omega), pk_uLn (by omega)]; exact g1 z hz
        · intro z hz
          dsimp only
          by_cases e : z = j
          · rw [e, pk_uLs, pk_uLs, if_pos uj]
            refine fp_eq (by omega) (by omega) ?_ f
            unfold ch_N
            split <;> grind
          · rw [pk_uLn (by omega), pk_uLn (by omega)]; exact g2 z (by omega)
        · intro z hz hn
          dsimp only
          rw [pk_uLn (by omega), pk_uLn (by omega)]; exact g3 z (by omega) hn
        · dsimp only
          rw [pk_uLn (by omega), pk_uLn (by omega)]
          have : ys_R w U each t i (j + 1) = ys_R w U each t i j := by
            unfold ys_R
            simp only [ba_S, uj, if_true, Int.add_zero]
          rw [this]; exact g4
    · have uj' : U j = false := by simpa using uj
      refine br_t ((hop j hj).mpr uj') ⟨v5', v5', ?_⟩
      refine ym_sw c (by omega) (by omega) (ym_tot c (by omega) ?_)
      have tj : (t j).natAbs ≤ 1 := by rcases ht j hj with q | q <;> rw [q] <;> decide
      have Rb := ys_R_b c.1 (U := U) he ht hi j (by omega)
      have tsw : (t j * (ch_sw w i j : Int)).natAbs ≤ 9 := by
        have := ba_nm tj (show ((ch_sw w i j : Nat) : Int).natAbs ≤ 9 by omega)
        omega
      rw [htp j hj, hbt j hj, cv_pos (by omega), cv_pos (by omega)]
      refine ym_mulS (fp_int (by omega)) (by decide) (by omega) (by omega) (by omega) (by omega) (by omega) (fun x y f => ?_)
      dsimp only
      refine ⟨v5, v5, ?_⟩
      rw [d5]
      have f' : fp_is x y (t j * (ch_sw w i j : Int)) (ch_tot w i : Int) := by rw [Int.one_mul] at f; exact f
      refine ym_addV (by omega) g4 f' (by omega) (by omega) (fun x y f => ?_)
      dsimp only
      refine ⟨v5, nm_e ⟨v5, nm_e (nm_r (nI_1 j) (ih (x, y, vp_updL up' (6 * i + 5) x, vp_updL dn' (6 * i + 5) y) ⟨?_, ?_, ?_, ?_⟩))⟩⟩
      · intro z hz
        dsimp only
        rw [pk_uLn (by omega), pk_uLn (by omega)]; exact g1 z hz
      · intro z hz
        dsimp only
        rw [pk_uLn (by omega), pk_uLn (by omega)]
        by_cases e : z = j
        · rw [e, if_neg uj]
          refine fp_eq (by decide) (by omega) ?_ (g3 j (Nat.le_refl j) hj)
          split <;> grind
        · exact g2 z (by omega)
      · intro z hz hn
        dsimp only
        rw [pk_uLn (by omega), pk_uLn (by omega)]; exact g3 z (by omega) hn
      · dsimp only
        rw [pk_uLs, pk_uLs]
        have : ys_R w U each t i (j + 1) = ys_R w U each t i j + t j * (ch_sw w i j : Int) := by
          unfold ys_R
          simp only [ba_S]
          rw [if_neg uj]; omega
        rw [this]; exact f
end
end
section
/-! the reference lays out its equations and clears them -/
theorem ys_c_b {n : Nat} {w : Nat → Nat} (ok : ch_ok n w) {U : Nat → Bool} {v : Nat → Int} (hv : ∀ t, t < n → U t = true → (v t).natAbs ≤ 45) {c : Nat} (hc : c < n ∨ c = 5) : ∀ t, t < n → U t = true → (ys_c w U v c t).natAbs ≤ 45 := by
  intro t ht ut
  have h5 := ok.2.1
  unfold ys_c
  by_cases c5 : c = 5
  · rw [if_pos c5]; exact hv t ht ut
  · rw [if_neg c5]
    split
    · exact ch_N_b ok ht (by omega)
    · decide
theorem ys_c_col {w : Nat → Nat} {U : Nat → Bool} (v : Nat → Int) {k : Nat} (k5 : k < 5) (uk : U k = true) : ys_c w U v k = fun t => ch_N w t k := by
  funext t
  unfold ys_c
  rw [if_neg (by omega), if_pos uk]
theorem ys_P0 {w : Nat → Nat} {U : Nat → Bool} (v t : Nat → Int) {s : Nat} (us : U s = true) (c : Nat) : ys_P w U v t 0 s c = ys_c w U v c s := by
  unfold ys_P ye_mn
  rw [if_pos us, if_neg (by omega), Int.one_mul]; rfl
theorem ys_Q0 {w : Nat → Nat} {U : Nat → Bool} {s : Nat} (us : U s = true) : ys_Q w U 0 s = (ch_tot w s : Int) := by
  unfold ys_Q ye_md
  rw [if_pos us, if_neg (by omega), Int.mul_one]
  show _ * 1 = _
  rw [Int.mul_one]
theorem ys_Pn {w : Nat → Nat} {U : Nat → Bool} (v t : Nat → Int) {s : Nat} (us : U s = false) (k c : Nat) : ys_P w U v t k s c = if c = 5 then t s else if c = s then 1 else 0 := by
  unfold ys_P
  rw [us]; simp
theorem ys_Qn {w : Nat → Nat} {U : Nat → Bool} {s : Nat} (us : U s = false) (k : Nat) : ys_Q w U k s = 1 := by
  unfold ys_Q
  rw [us]; simp
section
variable {n : Nat} {w : Nat → Nat} {a : Nat → Int32} {fa fb : Int64} {up dn : Nat → Int64} {op : Nat → Int32} {tp bt nt nb : Nat → Int64}
theorem ym_equations {post : SY → Prop} (c : cr_Y n w a) {U : Nat → Bool} {each : Nat} (he : each ≤ 1) {t v : Nat → Int} (ht : ∀ s, s < n → t s = 0 ∨ t s = 1) (hop : ∀ s, s < n → (op s = 0 ↔ U s = false))
    (htp : ∀ s, s < n → tp s = Int64.ofInt (t s)) (hbt : ∀ s, s < n → bt s = Int64.ofInt 1) (hv : ∀ s, s < n → U s = true → ys_R w U each t s n = v s)
    (hp : ∀ fa' fb' up' dn', ys_M n up' dn' (ys_P w U v t 0) (ys_Q w U 0) → post (nI n, fa', fb', a, up', dn', op, tp, bt, nt, nb)) :
    wpY_equations post (nI n, fa, fb, a, up, dn, op, tp, bt, nt, nb) (nI each) := by
  have n5 := c.1.2.1
  have n1 := c.1.1
  refine loop_0 (fun f i (s : Int64 × Int64 × (Nat → Int64) × (Nat → Int64)) => wY_equations_2 post (nI each) f (nI i) (nI n) s.1 s.2.1 a s.2.2.1 s.2.2.2 op tp bt nt nb)
    (fun i s => ∀ r, r < i → ∀ c, (c < n ∨ c = 5) → fp_is (s.2.2.1 (6 * r + c)) (s.2.2.2 (6 * r + c)) (ys_P w U v t 0 r c) (ys_Q w U 0 r)) n (fa, fb, up, dn) ?_ ?_ ?_
  · intro r hr; omega
  · rintro f ⟨fa, fb, up', dn'⟩ g
    exact br_t (nI_le (Nat.le_refl n) (by omega)) (hp fa fb up' dn' g)
  · rintro f i ⟨fa, fb, up', dn'⟩ hi g ih
    dsimp only at g
    refine br_f (nI_ge hi (by omega)) ?_
    rw [cv_pos (by omega : each < 2 ^ 31)]
    have i5 : 6 * nI i + 5 = nI (6 * i + 5) := ix_6' i 5
    have ei : (nI i).toNatClampNeg = i := nI_clamp (by omega)
    refine ym_put (q := 1) i5 (by omega) (by decide) (by omega) (by decide) (fun x y fx => ?_)
    dsimp only
    refine loop_0 (fun f' j (s : Int64 × Int64 × (Nat → Int64) × (Nat → Int64)) => wY_equations_25 post (wY_equations_2 post (nI each) f) (nI each) (nI i) f' (nI j) (nI n) s.1 s.2.1 a s.2.2.1 s.2.2.2 op tp bt nt nb)
      (fun j s => (∀ r, r < i → ∀ c, (c < n ∨ c = 5) → fp_is (s.2.2.1 (6 * r + c)) (s.2.2.2 (6 * r + c)) (ys_P w U v t 0 r c) (ys_Q w U 0 r)) ∧ (∀ c, c < j → fp_is (s.2.2.1 (6 * i + c)) (s.2.2.2 (6 * i + c)) (if i = c then 1 else 0) 1) ∧ fp_is (s.2.2.1 (6 * i + 5)) (s.2.2.2 (6 * i + 5)) (if j = 0 ∨ U i = true then (each : Int) else t i) 1) n (x, y, vp_updL up' (6 * i + 5) x, vp_updL dn' (6 * i + 5) y) ?_ ?_ ?_
    · dsimp only
      refine ⟨?_, fun c hc => absurd hc (by omega), ?_⟩
      · intro r hr c' hc
        rw [pk_uLn (by omega), pk_uLn (by omega)]; exact g r hr c' hc
      · rw [pk_uLs, pk_uLs]; simpa using fx
    · rintro f' ⟨fa, fb, up2, dn2⟩ ⟨g1, g2, g3⟩
      dsimp only at g1 g2 g3
      refine br_t (nI_le (Nat.le_refl n) (by omega)) ⟨vp_in_nI (by omega) (by decide), ?_⟩
      dsimp only
      rw [ei]
      by_cases ui : U i = true
      · refine br_f (fun z => by have := (hop i hi).mp z; rw [ui] at this; cases this) ?_
        rw [if_pos (.inr ui)] at g3
        refine ym_take c he ht hop htp hbt hi g2 g3 (fun fa' fb' up3 dn3 k1 k2 k3 => ?_)
        dsimp only
        refine nm_r (nI_1 i) (ih (fa', fb', up3, dn3) ?_)
        intro r hr c' hc
        dsimp only
        by_cases ri : r = i
        · subst ri
          rw [ys_P0 v t ui, ys_Q0 ui]
          unfold ys_c
          by_cases c5 : c' = 5
          · rw [if_pos c5, c5, ← hv r hi ui]; exact k3
          · rw [if_neg c5]
            have := k2 c' (by omega)
            by_cases uc : U c' = true
            · rw [if_pos uc]; rw [if_pos uc] at this; exact this
            · have rc : ¬ r = c' := fun q => uc (q ▸ ui)
              rw [if_neg uc]; rw [if_neg uc, if_neg rc] at this; exact this
        · have k := k1 (6 * r + c') (by omega)
          rw [k.1, k.2]; exact g1 r (by omega) c' hc
      · have ui' : U i = false := by simpa using ui
        refine br_t ((hop i hi).mpr ui') (nm_r (nI_1 i) (ih (fa, fb, up2, dn2) ?_))
        intro r hr c' hc
        dsimp only
        by_cases ri : r = i
        · subst ri
          rw [ys_Pn v t ui', ys_Qn ui']
          by_cases c5 : c' = 5
          · rw [if_pos c5, c5]
            rw [if_neg (fun q => q.elim (fun z => by omega) ui)] at g3
            exact g3
          · rw [if_neg c5]
            have := g2 c' (by omega)
            by_cases rc : r = c'
            · rw [if_pos rc.symm]; rw [if_pos rc] at this; exact this
            · rw [if_neg (fun q => rc q.symm)]; rw [if_neg rc] at this; exact this
        · exact g1 r (by omega) c' hc
    · rintro f' j ⟨fa, fb, up2, dn2⟩ hj ⟨g1, g2, g3⟩ ih2
      dsimp only at g1 g2 g3
      refine br_f (nI_ge hj (by omega)) ?_
      have s50 : ∀ z0 : Int, z0 = (if i = j then 1 else 0) → wY_equations_50 post (wY_equations_2 post (nI each) f) (wY_equations_25 post (wY_equations_2 post (nI each) f) (nI each) (nI i) f') (nI each) (nI i) (nI j) (Int64.ofInt z0) (6 * nI i + nI j) (nI n) fa fb a up2 dn2 op tp bt nt nb := by
        intro z0 hz0
        have zb : z0.natAbs ≤ 1 := by rw [hz0]; split <;> decide
        refine ym_put (q := 1) (ix_6' i j) (by omega) (by decide) (by omega) (by decide) (fun x y fx => ?_)
        dsimp only
        refine ⟨vp_in_nI (by omega) (by decide), ?_⟩
        rw [ei]
        by_cases ui : U i = true
        · refine br_f (fun z => by have := (hop i hi).mp z; rw [ui] at this; cases this) (nm_r (nI_1 j) (ih2 (x, y, vp_updL up2 (6 * i + j) x, vp_updL dn2 (6 * i + j) y) ⟨?_, ?_, ?_⟩))
          · intro r hr c' hc
            dsimp only
            rw [pk_uLn (by omega), pk_uLn (by omega)]; exact g1 r hr c' hc
          · intro c' hc
            dsimp only
            by_cases e : c' = j
            · rw [e, pk_uLs, pk_uLs, ← hz0]; exact fx
            · rw [pk_uLn (by omega), pk_uLn (by omega)]; exact g2 c' (by omega)
          · dsimp only
            rw [pk_uLn (by omega), pk_uLn (by omega), if_pos (.inr ui)]
            rw [if_pos (.inr ui)] at g3
            exact g3
        · have ui' : U i = false := by simpa using ui
          refine br_t ((hop i hi).mpr ui') ⟨vp_in_nI (by omega) (by decide), vp_in_nI (by omega) (by decide), ?_⟩
          rw [htp i hi, hbt i hi]
          have tb : (t i).natAbs ≤ 1 := by rcases ht i hi with q | q <;> rw [q] <;> decide
          refine ym_put (q := 1) i5 (by omega) (by decide) (by omega) (by decide) (fun x2 y2 fx2 => ?_)
          dsimp only
          refine nm_r (nI_1 j) (ih2 (x2, y2, vp_updL (vp_updL up2 (6 * i + j) x) (6 * i + 5) x2, vp_updL (vp_updL dn2 (6 * i + j) y) (6 * i + 5) y2) ⟨?_, ?_, ?_⟩)
          · intro r hr c' hc
            dsimp only
            rw [pk_uLn (by omega), pk_uLn (by omega), pk_uLn (by omega), pk_uLn (by omega)]; exact g1 r hr c' hc
          · intro c' hc
            dsimp only
            have ne5 : 6 * i + c' ≠ 6 * i + 5 := by omega
            rw [pk_uLn (f := vp_updL up2 (6 * i + j) x) ne5, pk_uLn (f := vp_updL dn2 (6 * i + j) y) ne5]
            by_cases e : c' = j
            · rw [e, pk_uLs, pk_uLs, ← hz0]; exact fx
            · rw [pk_uLn (by omega), pk_uLn (by omega)]; exact g2 c' (by omega)
          · dsimp only
            rw [pk_uLs, pk_uLs, if_neg (fun q => q.elim (fun z => by omega) ui)]
            exact fx2
      by_cases e : i = j
      · exact br_t (by rw [e]) (s50 1 (by rw [if_pos e]))
      · exact br_f (fun q => e ((nI_eq (by omega) (by omega)).mp q)) (s50 0 (by rw [if_neg e]))
theorem ym_clear {post : SY → Prop} (c : cr_Y n w a) {U : Nat → Bool} (h : sv_ok n w U) {z : Nat} (hz : z < n) (uz : U z = false) {t v : Nat → Int} (hv : ∀ t, t < n → U t = true → (v t).natAbs ≤ 45)
    {k s : Nat} (hk : k < n) (uk : U k = true) (hs : s < n) (us : U s = true) (ne : s ≠ k)
    (g1 : ∀ c, (c < n ∨ c = 5) → fp_is (up (6 * s + c)) (dn (6 * s + c)) (ys_P w U v t k s c) (ys_Q w U k s))
    (g2 : ∀ c, (c < n ∨ c = 5) → fp_is (up (6 * k + c)) (dn (6 * k + c)) (ys_P w U v t k k c) (ys_Q w U k k))
    (hp : ∀ fa' fb' up' dn', (∀ x, (x < 6 * s ∨ 6 * s + 6 ≤ x) → up' x = up x ∧ dn' x = dn x) → (∀ c, (c < n ∨ c = 5) → fp_is (up' (6 * s + c)) (dn' (6 * s + c)) (ys_P w U v t (k + 1) s c) (ys_Q w U (k + 1) s)) → post (nI n, fa', fb', a, up', dn', op, tp, bt, nt, nb)) :
    wpY_clear post (nI n, fa, fb, a, up, dn, op, tp, bt, nt, nb) (nI s) (nI k) := by
  have n5 := c.1.2.1
  have tk := ch_tot_pos w k
  have mk1 : ye_mn w U k k = 1 := by unfold ye_mn; rw [if_neg (by omega)]
  have mk2 : ye_md w U k k = (ch_tot w k : Int) := by unfold ye_md; rw [if_neg (by omega), Int.mul_one]
  have l3 := ba_ops_len3 n5 hz uz hk uk
  have ni : k ∉ ba_ops U k := fun q => by have := (ba_ops_mem.mp q).1; omega
  have Dk : ba_F (ch_N w) (ba_ops U k) k (ys_c w U v k) = ba_D (ch_N w) (ba_ops U (k + 1)) := by
    rw [ys_c_col v (by omega) uk, ba_ops_succ uk, ba_stepD _ _ _ l3 ni]
  obtain ⟨s1, s2, s3, s4, s5, s6, _, _, _, s10, s11⟩ := ye_stage c.1 h hz uz hk uk hs us ne hv
  have Ps : ∀ c, ys_P w U v t k s c = ye_mn w U k s * ba_F (ch_N w) (ba_ops U k) s (ys_c w U v c) := fun c => by unfold ys_P; rw [if_pos us]
  have Qs : ys_Q w U k s = ye_md w U k s * ba_D (ch_N w) (ba_ops U k) := by unfold ys_Q; rw [if_pos us]
  have Pk : ∀ c, ys_P w U v t k k c = ba_F (ch_N w) (ba_ops U k) k (ys_c w U v c) := fun c => by unfold ys_P; rw [if_pos uk, mk1, Int.one_mul]
  have Qk : ys_Q w U k k = (ch_tot w k : Int) * ba_D (ch_N w) (ba_ops U k) := by unfold ys_Q; rw [if_pos uk, mk2]
  have Ps' : ∀ c, ys_P w U v t (k + 1) s c = ye_mn w U k s * ba_F (ch_N w) (ba_ops U (k + 1)) s (ys_c w U v c) := fun c => by unfold ys_P; rw [if_pos us, s10]
  have Qs' : ys_Q w U (k + 1) s = ye_md w U k s * ba_D (ch_N w) (ba_ops U (k + 1)) := by unfold ys_Q; rw [if_pos us, s11]
  have d1 : (6 * nI s + nI k).toNatClampNeg = 6 * s + k := by rw [ix_6']; exact nI_clamp (by omega)
  have d2 : (6 * nI k + nI k).toNatClampNeg = 6 * k + k := by rw [ix_6']; exact nI_clamp (by omega)
  have v1 : vp_in (6 * nI s + nI k) 30 := by rw [ix_6']; exact vp_in_nI (by omega) (by decide)
  have v2 : vp_in (6 * nI k + nI k) 30 := by rw [ix_6']; exact vp_in_nI (by omega) (by decide)
  have Tk : 0 < (ch_tot w k : Int) * ba_D (ch_N w) (ba_ops U k) := Int.mul_pos (by omega) s3
  have Sk : 0 < ye_md w U k s * ba_D (ch_N w) (ba_ops U k) := Int.mul_pos s2 s3
  have Sk' : 0 < ye_md w U k s * ba_D (ch_N w) (ba_ops U (k + 1)) := Int.mul_pos s2 s4
  unfold wpY_clear
  dsimp only
  refine ⟨v1, v1, v2, v2, ?_⟩
  rw [d1, d2]
  have f1 := g1 k (.inl hk)
  have f2 := g2 k (.inl hk)
  rw [Ps, Qs, ys_c_col v (by omega) uk] at f1
  rw [Pk, Qk, Dk] at f2
  refine ym_mulQ (p2 := ye_mn w U k s * ba_F (ch_N w) (ba_ops U k) s (fun t => ch_N w t k) * (ch_tot w k : Int)) (q2 := ye_md w U k s * ba_D (ch_N w) (ba_ops U (k + 1))) f1 f2 Sk s4 Tk Sk' (by grind) s5 s6 (fun x y fx => ?_)
  have fx := fp_neg fx
  dsimp only
  refine nm_e ?_
  refine loop_0 (fun f j (q : Int64 × Int64 × (Nat → Int64) × (Nat → Int64)) => wY_clear_63 post (nI s) (nI k) (-x) y f (nI j) (nI n) q.1 q.2.1 a q.2.2.1 q.2.2.2 op tp bt nt nb)
    (fun j q => (∀ x, (x < 6 * s ∨ 6 * s + j ≤ x) → q.2.2.1 x = up x ∧ q.2.2.2 x = dn x) ∧ (∀ c, c < j → (c < n ∨ c = 5) → fp_is (q.2.2.1 (6 * s + c)) (q.2.2.2 (6 * s + c)) (ys_P w U v t (k + 1) s c) (ys_Q w U (k + 1) s))) 6 (x, y, up, dn) ?_ ?_ ?_
  · exact ⟨fun x _ => ⟨rfl, rfl⟩, fun c hc => absurd hc (by omega)⟩
  · rintro f ⟨fa, fb, up', dn'⟩ ⟨k1, k2⟩
    exact br_t (by decide) (hp fa fb up' dn' k1 (fun c hc => k2 c (by omega) hc))
  · rintro f j ⟨fa, fb, up', dn'⟩ hj ⟨k1, k2⟩ ih
    dsimp only at k1 k2
    have e1 : (6 * nI s + nI j).toNatClampNeg = 6 * s + j := by rw [ix_6']; exact nI_clamp (by omega)
    have e2 : (6 * nI k + nI j).toNatClampNeg = 6 * k + j := by rw [ix_6']; exact nI_clamp (by omega)
    have w1 : vp_in (6 * nI s + nI j) 30 := by rw [ix_6']; exact vp_in_nI (by omega) (by decide)
    have w2 : vp_in (6 * nI k + nI j) 30 := by rw [ix_6']; exact vp_in_nI (by omega) (by decide)
    refine br_f (nI_ge (b := 6) hj (by decide)) ⟨w2, w2, ?_⟩
    dsimp only
    rw [e2, (k1 (6 * k + j) (by omega)).1, (k1 (6 * k + j) (by omega)).2]
    have go : ∀ x' y' : Int64, ((j < n ∨ j = 5) → fp_is x' y' (ys_P w U v t (k + 1) s j) (ys_Q w U (k + 1) s)) → wY_clear_63 post (nI s) (nI k) (-x) y f (nI (j + 1)) (nI n) x' y' a (vp_updL up' (6 * s + j) x') (vp_updL dn' (6 * s + j) y') op tp bt nt nb := by
      intro x' y' hx
      refine ih (x', y', vp_updL up' (6 * s + j) x', vp_updL dn' (6 * s + j) y') ⟨?_, ?_⟩
      · intro r hr
        dsimp only
        rw [pk_uLn (by omega), pk_uLn (by omega)]; exact k1 r (by omega)
      · intro c' hc hv'
        dsimp only
        by_cases e : c' = j
        · rw [e, pk_uLs, pk_uLs]; exact hx (e ▸ hv')
        · rw [pk_uLn (by omega), pk_uLn (by omega)]; exact k2 c' (by omega) hv'
    by_cases good : j < n ∨ j = 5
    · obtain ⟨_, _, _, _, _, _, r7, r8, r9, _, _⟩ := ye_stage c.1 h hz uz hk uk hs us ne (ys_c_b c.1 hv good)
      have q1 := g1 j good
      have q2 := g2 j good
      rw [Ps, Qs] at q1
      rw [Pk, Qk] at q2
      have V0 : 0 < ye_md w U k s * ba_D (ch_N w) (ba_ops U k) * ba_D (ch_N w) (ba_ops U (k + 1)) := Int.mul_pos Sk s4
      refine ym_mulP (p2 := -(ye_mn w U k s * ba_F (ch_N w) (ba_ops U k) s (fun t => ch_N w t k) * ba_F (ch_N w) (ba_ops U k) k (ys_c w U v j))) (q2 := ye_md w U k s * ba_D (ch_N w) (ba_ops U k) * ba_D (ch_N w) (ba_ops U (k + 1))) q2 fx Tk Sk' V0 (by grind) (by rw [Int.natAbs_neg]; omega) r8 (fun x1 y1 fx1 => ?_)
      dsimp only
      refine ⟨w1, w1, ?_⟩
      rw [e1, (k1 (6 * s + j) (by omega)).1, (k1 (6 * s + j) (by omega)).2]
      have q3 := fp_eq (p' := ye_mn w U k s * ba_F (ch_N w) (ba_ops U k) s (ys_c w U v j) * ba_D (ch_N w) (ba_ops U (k + 1))) (q' := ye_md w U k s * ba_D (ch_N w) (ba_ops U k) * ba_D (ch_N w) (ba_ops U (k + 1))) Sk V0 (by grind) q1
      refine ym_addV V0 q3 fx1 (by rw [Int.natAbs_neg]; exact r7) r8 (fun x2 y2 fx2 => ?_)
      dsimp only
      refine ⟨w1, nm_e ⟨w1, nm_e (nm_r (nI_1 j) (go x2 y2 (fun _ => ?_)))⟩⟩
      rw [Ps', Qs']
      refine fp_eq V0 Sk' ?_ fx2
      have : ye_mn w U k s * ba_F (ch_N w) (ba_ops U k) s (ys_c w U v j) * ba_D (ch_N w) (ba_ops U (k + 1)) + -(ye_mn w U k s * ba_F (ch_N w) (ba_ops U k) s (fun t => ch_N w t k) * ba_F (ch_N w) (ba_ops U k) k (ys_c w U v j)) = ye_mn w U k s * ba_F (ch_N w) (ba_ops U (k + 1)) s (ys_c w U v j) * ba_D (ch_N w) (ba_ops U k) := by
        rw [← r9]; omega
      rw [this]
      grind
    · obtain ⟨x1, y1, m1⟩ := ym_mulT (fa := fa) (fb := fb) (a := a) (up := up') (dn := dn') (op := op) (tp := tp) (bt := bt) (nt := nt) (nb := nb) (nI n) (up (6 * k + j)) (dn (6 * k + j)) (-x) y
      refine m1 _ ?_
      dsimp only
      refine ⟨w1, w1, ?_⟩
      rw [e1]
      obtain ⟨x2, y2, m2⟩ := ym_addT (fa := x1) (fb := y1) (a := a) (up := up') (dn := dn') (op := op) (tp := tp) (bt := bt) (nt := nt) (nb := nb) (nI n) (up' (6 * s + j)) (dn' (6 * s + j)) x1 y1
      refine m2 _ ?_
      dsimp only
      exact ⟨w1, nm_e ⟨w1, nm_e (nm_r (nI_1 j) (go x2 y2 (fun q => absurd q good)))⟩⟩
theorem ym_exch {post : SY → Prop} {st : Int32} {p : Nat} (hp5 : p < 5) (hp : post (st, fa, fb, a, up, dn, op, tp, bt, nt, nb)) : wpY_exchangeRows post (st, fa, fb, a, up, dn, op, tp, bt, nt, nb) (nI p) (nI p) := by
  refine loop_0 (fun f j (_ : Unit) => wY_exchangeRows_2 post (nI p) (nI p) st fa fb f (nI j) a up dn op tp bt nt nb) (fun _ _ => True) 6 () trivial ?_ ?_
  · intro f _ _
    exact br_t (by decide) hp
  · intro f j _ hj _ ih
    have e : (6 * nI p + nI j).toNatClampNeg = 6 * p + j := by rw [ix_6']; exact nI_clamp (by omega)
    have v1 : vp_in (6 * nI p + nI j) 30 := by rw [ix_6']; exact vp_in_nI (by omega) (by decide)
    have id1 : ∀ (g : Nat → Int64) (k : Nat), vp_updL g k (g k) = g := by
      intro g k
      funext x
      unfold vp_updL
      split
      · rename_i q; rw [q]
      · rfl
    refine br_f (nI_ge (b := 6) hj (by decide)) ⟨v1, nm_e ⟨v1, nm_e ⟨v1, v1, nm_r (id1 _ _) ⟨v1, v1, nm_r (id1 _ _) ⟨v1, nm_r (id1 _ _) ⟨v1, nm_r (id1 _ _) (nm_r (nI_1 j) (ih () trivial))⟩⟩⟩⟩⟩⟩
end
end
section
/-! the reference solves its equations -/
theorem ys_keep {n : Nat} {w : Nat → Nat} (ok : ch_ok n w) {U : Nat → Bool} (h : sv_ok n w U) {z : Nat} (hz : z < n) (uz : U z = false) {t v : Nat → Int} (hv : ∀ t, t < n → U t = true → (v t).natAbs ≤ 45)
    {k s : Nat} (hk : k < n) (hs : s < n) (ne : s ≠ k) {c : Nat} (hc : c < n ∨ c = 5) {x y : Int64}
    (zero : U k = true → U s = true → ba_F (ch_N w) (ba_ops U k) s (fun t => ch_N w t k) = 0)
    (f : fp_is x y (ys_P w U v t k s c) (ys_Q w U k s)) : fp_is x y (ys_P w U v t (k + 1) s c) (ys_Q w U (k + 1) s) := by
  by_cases us : U s = true
  · by_cases uk : U k = true
    · obtain ⟨s1, s2, s3, s4, _, _, _, _, s9, s10, s11⟩ := ye_stage ok h hz uz hk uk hs us ne (ys_c_b ok hv hc)
      rw [zero uk us] at s9
      unfold ys_P ys_Q at f ⊢
      rw [if_pos us, if_pos us] at f ⊢
      rw [s10, s11]
      refine fp_eq (Int.mul_pos s2 s3) (Int.mul_pos s2 s4) ?_ f
      have e : ye_mn w U k s * ba_F (ch_N w) (ba_ops U k) s (ys_c w U v c) * ba_D (ch_N w) (ba_ops U (k + 1)) = ye_mn w U k s * ba_F (ch_N w) (ba_ops U (k + 1)) s (ys_c w U v c) * ba_D (ch_N w) (ba_ops U k) := by
        rw [← s9]; grind
      grind
    · have e : ba_ops U (k + 1) = ba_ops U k := ba_ops_n uk
      have m1 : ye_mn w U (k + 1) s = ye_mn w U k s := by
        unfold ye_mn
        by_cases q : s < k
        · rw [if_pos q, if_pos (by omega)]
        · rw [if_neg q, if_neg (by omega)]
      have m2 : ye_md w U (k + 1) s = ye_md w U k s := by
        unfold ye_md
        by_cases q : s < k
        · rw [if_pos q, if_pos (by omega)]
        · rw [if_neg q, if_neg (by omega)]
      unfold ys_P ys_Q at f ⊢
      rw [e, m1, m2]; exact f
  · have us' : U s = false := by simpa using us
    rw [ys_Pn v t us', ys_Qn us'] at f ⊢
    exact f
theorem ys_rowk {n : Nat} {w : Nat → Nat} (ok : ch_ok n w) {U : Nat → Bool} (h : sv_ok n w U) {z : Nat} (hz : z < n) (uz : U z = false) {t v : Nat → Int}
    {k : Nat} (hk : k < n) {c : Nat} {x y : Int64} (f : fp_is x y (ys_P w U v t k k c) (ys_Q w U k k)) : fp_is x y (ys_P w U v t (k + 1) k c) (ys_Q w U (k + 1) k) := by
  by_cases uk : U k = true
  · have q1 := ys_Qpos ok h (k := k) (s := k) (by omega) hk
    have q2 := ys_Qpos ok h (k := k + 1) (s := k) (by omega) hk
    refine fp_eq q1 q2 ?_ f
    have ni : k ∉ ba_ops U k := fun q => by have := (ba_ops_mem.mp q).1; omega
    have a1 : ye_mn w U k k = 1 := by unfold ye_mn; rw [if_neg (by omega)]
    have a2 : ye_md w U k k = (ch_tot w k : Int) := by unfold ye_md; rw [if_neg (by omega), Int.mul_one]
    have b1 : ye_mn w U (k + 1) k = ba_D (ch_N w) (ba_ops U (k + 1)) := by unfold ye_mn; rw [if_pos (by omega)]
    have b2 : ye_md w U (k + 1) k = (ch_tot w k : Int) * ba_D (ch_N w) (ba_ops U k) := by unfold ye_md; rw [if_pos (by omega)]
    have b3 : ba_F (ch_N w) (ba_ops U (k + 1)) k (ys_c w U v c) = ba_F (ch_N w) (ba_ops U k) k (ys_c w U v c) := by rw [ba_ops_succ uk, ba_stepP _ _ _ _ (ba_ops_len3 ok.2.1 hz uz hk uk) ni]
    unfold ys_P ys_Q
    simp only [uk, if_true]
    rw [a1, a2, b1, b2, b3]
    grind
  · have us' : U k = false := by simpa using uk
    rw [ys_Pn v t us', ys_Qn us'] at f ⊢
    exact f
def ys_at (k s r : Nat) : Nat := if r < s ∧ r ≠ k then k + 1 else k
theorem ys_atT {k s r : Nat} (h : r < s ∧ r ≠ k) : ys_at k s r = k + 1 := if_pos h
theorem ys_atF {k s r : Nat} (h : ¬ (r < s ∧ r ≠ k)) : ys_at k s r = k := if_neg h
section
variable {n : Nat} {w : Nat → Nat} {a : Nat → Int32} {fa fb : Int64} {up dn : Nat → Int64} {op : Nat → Int32} {tp bt nt nb : Nat → Int64}
theorem ym_last {post : SY → Prop} (ok : ch_ok n w) {U : Nat → Bool} (r : sv_rank n w U) {t v : Nat → Int} (ht : ∀ s, s < n → t s = 0 ∨ t s = 1) (hvb : ∀ s, s < n → U s = true → (v s).natAbs ≤ 45)
    (g : ys_M n up dn (ys_P w U v t n) (ys_Q w U n))
    (hp : ∀ fa' fb' tp' bt', (∀ s, s < n → fp_is (tp' s) (bt' s) (if U s = true then sv_F n w U s v else t s) (if U s = true then sv_D n w U else 1)) → post (nI n, fa', fb', a, up, dn, op, tp', bt', nt, nb)) :
    ∃ f, wY_solve_127 post f 0 (nI n) fa fb a up dn op tp bt nt nb := by
  have n5 := ok.2.1
  have h := sv_of ok r
  have Db := sv_Db ok r
  obtain ⟨z, _, hz, uz, _⟩ := r
  refine loop_0 (fun f i (s : Int64 × Int64 × (Nat → Int64) × (Nat → Int64)) => wY_solve_127 post f (nI i) (nI n) s.1 s.2.1 a up dn op s.2.2.1 s.2.2.2 nt nb)
    (fun i s => ∀ r, r < i → fp_is (s.2.2.1 r) (s.2.2.2 r) (if U r = true then sv_F n w U r v else t r) (if U r = true then sv_D n w U else 1)) n (fa, fb, tp, bt) ?_ ?_ ?_
  · intro r hr; omega
  · rintro f ⟨fa, fb, tp', bt'⟩ k
    exact br_t (nI_le (Nat.le_refl n) (by omega)) (hp fa fb tp' bt' k)
  · rintro f i ⟨fa, fb, tp', bt'⟩ hi k ih
    dsimp only at k
    have d1 : (6 * nI i + nI i).toNatClampNeg = 6 * i + i := by rw [ix_6']; exact nI_clamp (by omega)
    have v1 : vp_in (6 * nI i + nI i) 30 := by rw [ix_6']; exact vp_in_nI (by omega) (by decide)
    have d5 : (6 * nI i + 5).toNatClampNeg = 6 * i + 5 := by
      rw [show 6 * nI i + 5 = nI (6 * i + 5) from ix_6' i 5]; exact nI_clamp (by omega)
    have v5 : vp_in (6 * nI i + 5) 30 := by rw [show 6 * nI i + 5 = nI (6 * i + 5) from ix_6' i 5]; exact vp_in_nI (by omega) (by decide)
    have ei : (nI i).toNatClampNeg = i := nI_clamp (by omega)
    have vi : vp_in (nI i) 5 := vp_in_nI (by omega) (by decide)
    have f1 := g i hi i (.inl hi)
    have f2 := g i hi 5 (.inr rfl)
    have Q0 := ys_Qpos ok h (k := n) (s := i) (Nat.le_refl n) hi
    refine br_f (nI_ge hi (by omega)) ⟨v1, ?_⟩
    dsimp only
    rw [d1, d5]
    have go : ∀ x y : Int64, fp_is x y (if U i = true then sv_F n w U i v else t i) (if U i = true then sv_D n w U else 1) → (∀ q, q = vp_updL tp' (nI i).toNatClampNeg x → (vp_in (nI i) 5 ∧ ∀ q2, q2 = vp_updL bt' (nI i).toNatClampNeg y → ∀ q3, q3 = nI i + 1 → wY_solve_127 post f q3 (nI n) x y a up dn op q q2 nt nb)) := by
      intro x y fx
      rw [ei]
      refine nm_e ⟨vi, nm_e (nm_r (nI_1 i) (ih (x, y, vp_updL tp' i x, vp_updL bt' i y) ?_))⟩
      intro r hr
      dsimp only
      by_cases e : r = i
      · rw [e, pk_uLs, pk_uLs]; exact fx
      · rw [pk_uLn e, pk_uLn e]; exact k r (by omega)
    by_cases ui : U i = true
    · have Fi : ba_F (ch_N w) (ba_ops U n) i (ys_c w U v i) = sv_D n w U := by
        rw [ys_c_col v (by omega) ui]
        obtain ⟨g', T⟩ := h
        have := (T n (Nat.le_refl n)).2.2.2.1 i hi ui i hi ui
        rw [if_pos rfl] at this
        exact this
      have c5 : ys_c w U v 5 = v := by funext t; unfold ys_c; rw [if_pos rfl]
      have mn0 : 0 < ye_mn w U n i := by
        unfold ye_mn
        rw [if_pos hi]
        obtain ⟨g', T⟩ := h
        exact (T (i + 1) (by omega)).1
      unfold ys_P at f1 f2
      rw [if_pos ui, Fi] at f1
      rw [if_pos ui, c5] at f2
      have nz : 0 < ye_mn w U n i * sv_D n w U := Int.mul_pos mn0 Db.1
      have Fb := sv_Fb ok hi ui hvb
      refine br_f (fun q => by have := (fp_zero Q0 f1).mp q; omega) ⟨v5, v5, v1, v1, ?_⟩
      refine ym_mulQ (p2 := sv_F n w U i v) (q2 := sv_D n w U) f2 f1 Q0 nz Q0 Db.1 ?_ (by omega) (by omega) (fun x y fx => ?_)
      · show ye_mn w U n i * sv_F n w U i v * ys_Q w U n i * sv_D n w U = _
        grind
      · dsimp only
        refine ⟨vi, go x y ?_⟩
        rw [if_pos ui, if_pos ui]; exact fx
    · have ui' : U i = false := by simpa using ui
      rw [ys_Pn v t ui', ys_Qn ui'] at f1 f2
      rw [if_neg (by omega), if_pos rfl] at f1
      rw [if_pos rfl] at f2
      have tb : (t i).natAbs ≤ 1 := by rcases ht i hi with q | q <;> rw [q] <;> decide
      refine br_f (fun q => by have := (fp_zero (by decide) f1).mp q; omega) ⟨v5, v5, v1, v1, ?_⟩
      refine ym_mulQ (p2 := t i) (q2 := 1) f2 f1 (by decide) (by decide) (by decide) (by decide) (by omega) (by omega) (by decide) (fun x y fx => ?_)
      dsimp only
      refine ⟨vi, go x y ?_⟩
      rw [if_neg ui, if_neg ui]; exact fx
theorem ym_solve {post : SY → Prop} (c : cr_Y n w a) {U : Nat → Bool} (r : sv_rank n w U) {each : Nat} (he : each ≤ 1) {t v : Nat → Int} (ht : ∀ s, s < n → t s = 0 ∨ t s = 1) (hop : ∀ s, s < n → (op s = 0 ↔ U s = false))
    (htp : ∀ s, s < n → tp s = Int64.ofInt (t s)) (hbt : ∀ s, s < n → bt s = Int64.ofInt 1) (hv : ∀ s, s < n → U s = true → ys_R w U each t s n = v s) (hvb : ∀ s, s < n → U s = true → (v s).natAbs ≤ 45)
    (hp : ∀ fa' fb' up' dn' tp' bt', (∀ s, s < n → fp_is (tp' s) (bt' s) (if U s = true then sv_F n w U s v else t s) (if U s = true then sv_D n w U else 1)) → post (nI n, fa', fb', a, up', dn', op, tp', bt', nt, nb)) :
    wpY_solve post (nI n, fa, fb, a, up, dn, op, tp, bt, nt, nb) (nI each) := by
  have ok := c.1
  have n5 := ok.2.1
  have n1 := ok.1
  have h := sv_of ok r
  have r' := r
  obtain ⟨z, _, hz, uz, _⟩ := r
  unfold wpY_solve
  dsimp only
  refine ym_equations c he ht hop htp hbt hv (fun fa1 fb1 up1 dn1 g1 => ?_)
  dsimp only
  refine loop_0 (fun f k (s : Int64 × Int64 × (Nat → Int64) × (Nat → Int64)) => wY_solve_7 post f (nI k) (nI n) s.1 s.2.1 a s.2.2.1 s.2.2.2 op tp bt nt nb)
    (fun k s => ys_M n s.2.2.1 s.2.2.2 (ys_P w U v t k) (ys_Q w U k)) n (fa1, fb1, up1, dn1) g1 ?_ ?_
  · rintro f ⟨fa, fb, up, dn⟩ g
    refine br_t (nI_le (Nat.le_refl n) (by omega)) ?_
    exact ym_last ok r' ht hvb g (fun fa' fb' tp' bt' k => hp fa' fb' up dn tp' bt' k)
  · rintro f k ⟨fa, fb, up, dn⟩ hk g ih
    dsimp only at g
    refine br_f (nI_ge hk (by omega)) ?_
    dsimp only
    have d1 : (6 * nI k + nI k).toNatClampNeg = 6 * k + k := by rw [ix_6']; exact nI_clamp (by omega)
    have v1 : vp_in (6 * nI k + nI k) 30 := by rw [ix_6']; exact vp_in_nI (by omega) (by decide)
    have Q0 := ys_Qpos ok h (k := k) (s := k) (by omega) hk
    have Pk : ys_P w U v t k k k ≠ 0 := by
      unfold ys_P
      by_cases uk : U k = true
      · rw [if_pos uk]
        have ni : k ∉ ba_ops U k := fun q => by have := (ba_ops_mem.mp q).1; omega
        have mk1 : ye_mn w U k k = 1 := by unfold ye_mn; rw [if_neg (by omega)]
        have D := sv_DT ok h hz uz (k := k + 1) (by omega)
        rw [mk1, ys_c_col v (by omega) uk, ← ba_stepD _ _ _ (ba_ops_len3 n5 hz uz hk uk) ni, ← ba_ops_succ uk]
        omega
      · rw [if_neg uk, if_neg (by omega), if_pos rfl]; decide
    have piv : ¬ up (6 * k + k) = 0 := fun q => Pk ((fp_zero Q0 (g k hk k (.inl hk))).mp q)
    have s49 : wY_solve_49 post (wY_solve_7 post f) (nI k) (nI k) (nI n) fa fb a up dn op tp bt nt nb := by
      unfold wY_solve_49
      refine ym_exch (by omega) ?_
      dsimp only
      refine loop_0 (fun f' s (q : Int64 × Int64 × (Nat → Int64) × (Nat → Int64)) => wY_solve_58 post (wY_solve_7 post f) (nI k) f' (nI s) (nI n) q.1 q.2.1 a q.2.2.1 q.2.2.2 op tp bt nt nb)
        (fun s q => ∀ r, r < n → ∀ c, (c < n ∨ c = 5) → fp_is (q.2.2.1 (6 * r + c)) (q.2.2.2 (6 * r + c)) (ys_P w U v t (ys_at k s r) r c) (ys_Q w U (ys_at k s r) r)) n (fa, fb, up, dn) ?_ ?_ ?_
      · intro r hr c' hc
        rw [ys_atF (by omega)]; exact g r hr c' hc
      · rintro f' ⟨fa, fb, up, dn⟩ g2
        refine br_t (nI_le (Nat.le_refl n) (by omega)) (nm_r (nI_1 k) (ih (fa, fb, up, dn) ?_))
        intro r hr c' hc
        have := g2 r hr c' hc
        dsimp only at this ⊢
        by_cases q : r = k
        · rw [ys_atF (by omega)] at this
          rw [q] at this ⊢
          exact ys_rowk ok h hz uz hk this
        · rw [ys_atT ⟨hr, q⟩] at this
          exact this
      · rintro f' s ⟨fa, fb, up2, dn2⟩ hs g2 ih2
        dsimp only at g2
        have e1 : (6 * nI s + nI k).toNatClampNeg = 6 * s + k := by rw [ix_6']; exact nI_clamp (by omega)
        have w1 : vp_in (6 * nI s + nI k) 30 := by rw [ix_6']; exact vp_in_nI (by omega) (by decide)
        have rk : ∀ c', (c' < n ∨ c' = 5) → fp_is (up2 (6 * k + c')) (dn2 (6 * k + c')) (ys_P w U v t k k c') (ys_Q w U k k) := by
          intro c' hc
          have := g2 k hk c' hc
          rwa [ys_atF (by omega)] at this
        have piv2 : ¬ up2 (6 * k + k) = 0 := fun q => Pk ((fp_zero Q0 (rk k (.inl hk))).mp q)
        refine br_f (nI_ge hs (by omega)) ?_
        dsimp only
        by_cases e : s = k
        · refine br_t (by rw [e]) (nm_r (nI_1 s) (ih2 (fa, fb, up2, dn2) ?_))
          intro r hr c' hc
          have := g2 r hr c' hc
          dsimp only
          by_cases q : r < s ∧ r ≠ k
          · rw [ys_atT q] at this; rw [ys_atT (by omega)]; exact this
          · rw [ys_atF q] at this; rw [ys_atF (by omega)]; exact this
        · refine br_f (fun q => e ((nI_eq (by omega) (by omega)).mp q)) ⟨w1, ?_⟩
          rw [e1, d1]
          have rs : ∀ c', (c' < n ∨ c' = 5) → fp_is (up2 (6 * s + c')) (dn2 (6 * s + c')) (ys_P w U v t k s c') (ys_Q w U k s) := by
            intro c' hc
            have := g2 s hs c' hc
            rwa [ys_atF (by omega)] at this
          have others : ∀ {up3 dn3 : Nat → Int64}, (∀ x, (x < 6 * s ∨ 6 * s + 6 ≤ x) → up3 x = up2 x ∧ dn3 x = dn2 x) → (∀ c', (c' < n ∨ c' = 5) → fp_is (up3 (6 * s + c')) (dn3 (6 * s + c')) (ys_P w U v t (k + 1) s c') (ys_Q w U (k + 1) s)) → ∀ r, r < n → ∀ c', (c' < n ∨ c' = 5) → fp_is (up3 (6 * r + c')) (dn3 (6 * r + c')) (ys_P w U v t (ys_at k (s + 1) r) r c') (ys_Q w U (ys_at k (s + 1) r) r) := by
            intro up3 dn3 k1 k2 r hr c' hc
            by_cases q : r = s
            · subst q
              rw [ys_atT ⟨by omega, e⟩]; exact k2 c' hc
            · rw [(k1 (6 * r + c') (by omega)).1, (k1 (6 * r + c') (by omega)).2]
              have := g2 r hr c' hc
              by_cases q2 : r < s ∧ r ≠ k
              · rw [ys_atT q2] at this; rw [ys_atT (by omega)]; exact this
              · rw [ys_atF q2] at this; rw [ys_atF (by omega)]; exact this
          have Qs := ys_Qpos ok h (k := k) (s := s) (by omega) hs
          by_cases uz2 : up2 (6 * s + k) = 0
          · refine br_t uz2 (nm_r (nI_1 s) (ih2 (fa, fb, up2, dn2) ?_))
            refine others (fun _ _ => ⟨rfl, rfl⟩) (fun c' hc => ?_)
            refine ys_keep ok h hz uz hvb hk hs e hc (fun uk us => ?_) (rs c' hc)
            have p0 := (fp_zero Qs (rs k (.inl hk))).mp uz2
            unfold ys_P at p0
            rw [if_pos us, ys_c_col v (by omega) uk] at p0
            have m0 := (ye_stage ok h hz uz hk uk hs us e hvb).1
            rcases Int.mul_eq_zero.mp p0 with q | q
            · omega
            · exact q
          · refine br_f uz2 ⟨v1, br_f piv2 ?_⟩
            have P0 : ys_P w U v t k s k ≠ 0 := fun q => uz2 ((fp_zero Qs (rs k (.inl hk))).mpr q)
            have us : U s = true := by
              cases q : U s
              · rw [ys_Pn v t q, if_neg (by omega), if_neg (Ne.symm e)] at P0
                exact absurd rfl P0
              · rfl
            have uk : U k = true := by
              cases q : U k
              · exfalso
                apply P0
                unfold ys_P
                rw [if_pos us]
                have e0 : ys_c w U v k = fun _ => 0 := by
                  funext t
                  unfold ys_c
                  rw [if_neg (by omega), q]; simp
                obtain ⟨g', T⟩ := h
                rw [e0, ba_lin0 (fun v u b => (T k (by omega)).2.1 s hs us v u b), Int.mul_zero]
              · rfl
            refine ym_clear c h hz uz hvb hk uk hs us e rs rk (fun fa' fb' up3 dn3 k1 k2 => ?_)
            dsimp only
            exact nm_r (nI_1 s) (ih2 (fa', fb', up3, dn3) (others k1 k2))
    refine ⟨1, ?_⟩
    exact br_c (fun _ => s49) (fun _ => ⟨v1, by rw [d1]; exact br_f piv s49⟩)
end
end
section
/-! chances, times and means of the reference -/
theorem nb_0 : vp_nar .boolean 0 = 0 := rfl
theorem nb_1 : vp_nar .boolean 1 = 1 := rfl
section
variable {n : Nat} {w : Nat → Nat} {a : Nat → Int32} {fa fb : Int64} {up dn : Nat → Int64} {op : Nat → Int32} {tp bt nt nb : Nat → Int64}
theorem ym_chances {post : SY → Prop} (c : cr_Y n w a) {g b m : Nat} {B : Nat → Prop} (hg : g < 2 ^ n) (hb : bm_is n b B)
    (hm : bm_is n m (fun i => gr_L n (fun x y => 0 < ch_sw w x y) (fun y => g.testBit y = true) B (n - 1) i ∧ ¬ g.testBit i = true))
    (hp : sv_rank n w (fun s => m.testBit s) → ∀ fa' fb' up' dn' op' tp' bt', (∀ s, s < n → fp_is (tp' s) (bt' s) (sv_H n w (fun s => m.testBit s) (fun s => g.testBit s) s) (sv_D n w (fun s => m.testBit s))) → post (nI n, fa', fb', a, up', dn', op', tp', bt', nt, nb)) :
    wpY_chances post (nI n, fa, fb, a, up, dn, op, tp, bt, nt, nb) (nI g) (nI b) := by
  have h5 := c.1.2.1
  have hgm : bm_is n g (fun y => g.testBit y = true) := ⟨hg, fun _ _ => Iff.rfl⟩
  have r : sv_rank n w (fun s => m.testBit s) := gr_rank_of c.1 (G := fun y => g.testBit y) (B := B) (fun s hs => hm.2 s hs)
  have Db := sv_Db c.1 r
  have dis : ∀ s, s < n → m.testBit s = true → g.testBit s = false := fun s hs t => by
    have := ((hm.2 s hs).mp t).2
    simpa using this
  have nB : ∀ s, s < n → m.testBit s = true → ¬ B s := by
    intro s hs t
    obtain ⟨rk, hr⟩ := gr_ranks (n := n) (E := fun x y => 0 < ch_sw w x y) (G := fun y => g.testBit y = true) (B := B)
    obtain ⟨l, ng⟩ := (hm.2 s hs).mp t
    exact (hr s hs ng l).2.2.1
  refine loop_0 (fun f i (s : (Nat → Int32) × (Nat → Int64) × (Nat → Int64)) => wY_chances_2 post (nI g) (nI b) (nI n) fa fb f (nI i) a up dn s.1 s.2.1 s.2.2 nt nb)
    (fun i s => (∀ x, x < i → (s.1 x = 0 ↔ m.testBit x = false)) ∧ (∀ x, x < i → s.2.1 x = Int64.ofInt (if g.testBit x = true then 1 else 0)) ∧ (∀ x, x < i → s.2.2 x = Int64.ofInt 1)) n (op, tp, bt) ?_ ?_ ?_
  · exact ⟨fun x hx => absurd hx (by omega), fun x hx => absurd hx (by omega), fun x hx => absurd hx (by omega)⟩
  · rintro f ⟨op, tp, bt⟩ ⟨k1, k2, k3⟩
    refine br_t (nI_le (Nat.le_refl n) (by omega)) ?_
    have R0 : ∀ s, s < n → m.testBit s = true → ys_R w (fun s => m.testBit s) 0 (fun x => if g.testBit x = true then 1 else 0) s n = sv_v n w (fun s => g.testBit s) s := by
      intro s hs _
      unfold ys_R sv_v
      simp only [Int.natCast_zero, Int.zero_mul, Int.zero_add]
      apply ba_S_congr
      intro x hx
      by_cases mx : m.testBit x = true
      · rw [if_pos mx]; simp [dis x hx mx]
      · rw [if_neg mx]
        by_cases gx : g.testBit x = true
        · rw [if_pos gx, if_pos gx]; omega
        · rw [if_neg gx, if_neg gx]; simp
    refine ym_solve (each := 0) (U := fun s => m.testBit s) (t := fun x => if g.testBit x = true then 1 else 0) (v := sv_v n w (fun s => g.testBit s)) c r (by omega) ?_ k1 k2 k3 R0 ?_ ?_
    · intro s _
      by_cases q : g.testBit s = true
      · exact .inr (if_pos q)
      · exact .inl (if_neg q)
    · intro s hs _
      have u1 := sv_v_nonneg n w (fun s => g.testBit s) s
      have u2 := sv_v_le c.1 (fun s => g.testBit s) hs
      have u3 := ch_tot_le c.1 (i := s) (by omega)
      omega
    · intro fa' fb' up' dn' tp' bt' k
      dsimp only
      refine hp r fa' fb' up' dn' op tp' bt' (fun s hs => ?_)
      have := k s hs
      unfold sv_H
      by_cases ms : m.testBit s = true
      · rw [if_pos ms, if_pos ms] at this
        rw [if_pos ms]; exact this
      · rw [if_neg ms, if_neg ms] at this
        rw [if_neg ms]
        refine fp_eq (by decide) Db.1 ?_ this
        by_cases gs : g.testBit s = true
        · rw [if_pos gs, if_pos gs]; omega
        · rw [if_neg gs, if_neg gs]; omega
  · rintro f i ⟨op, tp, bt⟩ hi ⟨k1, k2, k3⟩ ih
    dsimp only at k1 k2 k3
    have ei : (nI i).toNatClampNeg = i := nI_clamp (by omega)
    have vi : vp_in (nI i) 5 := vp_in_nI (by omega) (by decide)
    refine br_f (nI_ge hi (by omega)) ?_
    dsimp only
    obtain ⟨q, hq⟩ := bm_exists n (gr_R n (fun x y => 0 < ch_sw w x y) (fun y => g.testBit y = true ∨ B y) i 5)
    have hgb := bm_or2 hgm hb
    have s29 : ∀ z0 : Int64, z0 = Int64.ofInt (if g.testBit i = true then 1 else 0) → wY_chances_29 post (wY_chances_2 post (nI g) (nI b) (nI n) fa fb f) (nI g) (nI b) (nI i) z0 (nI i) (nI n) fa fb a up dn op tp bt nt nb := by
      intro z0 hz0
      refine ⟨vi, nm_e ⟨vi, nm_e ?_⟩⟩
      rw [ei, bm_or]
      refine ym_reach c hi hgb hq ?_
      have fin : ∀ o : Int32, (o = 0 ↔ m.testBit i = false) → ∀ q2, q2 = upd op i o → ∀ q3, q3 = nI i + 1 → wY_chances_2 post (nI g) (nI b) (nI n) fa fb f q3 a up dn q2 (vp_updL tp i z0) (vp_updL bt i 1) nt nb := by
        intro o ho
        refine nm_e (nm_r (nI_1 i) (ih (upd op i o, vp_updL tp i z0, vp_updL bt i 1) ⟨?_, ?_, ?_⟩))
        · intro x hx
          dsimp only
          by_cases e : x = i
          · rw [e, pk_us]; exact ho
          · rw [pk_un e]; exact k1 x (by omega)
        · intro x hx
          dsimp only
          by_cases e : x = i
          · rw [e, pk_uLs]; exact hz0
          · rw [pk_uLn e]; exact k2 x (by omega)
        · intro x hx
          dsimp only
          by_cases e : x = i
          · rw [e, pk_uLs]; rfl
          · rw [pk_uLn e]; exact k3 x (by omega)
      rw [nb_0, nb_1]
      refine ym_in (bm_lt hgm h5) (by omega) (fun tg => ?_) (fun tg => ?_)
      · refine br_f (by decide) ⟨vi, fin 0 ⟨fun _ => ?_, fun _ => rfl⟩⟩
        cases e : m.testBit i
        · rfl
        · rw [dis i hi e] at tg; cases tg
      · refine br_t rfl (ym_in (bm_lt hb h5) (by omega) (fun tb => ?_) (fun tb => ?_))
        · refine br_f (by decide) ⟨vi, fin 0 ⟨fun _ => ?_, fun _ => rfl⟩⟩
          cases e : m.testBit i
          · rfl
          · exact absurd ((hb.2 i hi).mp tb) (nB i hi e)
        · refine br_t rfl ?_
          rw [bm_and]
          have hqg := bm_and2 hq hgm
          have lt : q &&& g < 2 ^ 31 := Nat.lt_trans (bm_lt hqg h5) (by decide)
          have key : m.testBit i = true ↔ q &&& g ≠ 0 := by
            have hmi : m.testBit i = true ↔ (gr_L n (fun x y => 0 < ch_sw w x y) (fun y => g.testBit y = true) B (n - 1) i ∧ ¬ g.testBit i = true) := hm.2 i hi
            rw [hmi, gr_lead (T := fun y => g.testBit y = true ∨ B y) (fun _ z => z) (fun _ z => .inr z) hi (by omega : n ≤ 5 + 1), bm_ne0 hqg]
            constructor
            · rintro ⟨⟨y, hy, gy, ry⟩, _⟩; exact ⟨y, hy, ry, gy⟩
            · rintro ⟨y, hy, ry, gy⟩; exact ⟨⟨y, hy, gy, ry⟩, by rw [tg]; decide⟩
          by_cases z : q &&& g = 0
          · refine br_t (by rw [z]; rfl) ⟨vi, fin 0 ⟨fun _ => ?_, fun _ => rfl⟩⟩
            cases e : m.testBit i
            · rfl
            · exact absurd z (key.mp e)
          · refine br_f (fun y => z ((cw_0 lt).mp y)) ⟨vi, fin 1 ⟨fun y => absurd y (by decide), fun y => ?_⟩⟩
            rw [key.mpr z] at y; cases y
    refine ym_in (bm_lt hgm h5) (by omega) (fun tg => ?_) (fun tg => ?_)
    · exact br_f (by decide) (s29 1 (by rw [if_pos tg]; rfl))
    · exact br_t rfl (s29 0 (by rw [tg]; rfl))
theorem ym_times {post : SY → Prop} (c : cr_Y n w a) {g m : Nat} (hg : g < 2 ^ n)
    (hm : bm_is n m (fun i => gr_L n (fun x y => 0 < ch_sw w x y) (fun y => g.testBit y = true) (fun _ => False) (n - 1) i ∧ ¬ g.testBit i = true))
    (hp : sv_rank n w (fun s => m.testBit s) → ∀ fa' fb' up' dn' op' tp' bt', (∀ s, s < n → (sv_H n w (fun s => m.testBit s) (fun s => g.testBit s) s = sv_D n w (fun s => m.testBit s) → fp_is (tp' s) (bt' s) (if m.testBit s = true then sv_F n w (fun s => m.testBit s) s (fun t => (ch_tot w t : Int)) else 0) (sv_D n w (fun s => m.testBit s))) ∧ (¬ sv_H n w (fun s => m.testBit s) (fun s => g.testBit s) s = sv_D n w (fun s => m.testBit s) → tp' s = 1 ∧ bt' s = 0)) → post (nI n, fa', fb', a, up', dn', op', tp', bt', nt, nb)) :
    wpY_times post (nI n, fa, fb, a, up, dn, op, tp, bt, nt, nb) (nI g) := by
  have h5 := c.1.2.1
  have hgm : bm_is n g (fun y => g.testBit y = true) := ⟨hg, fun _ _ => Iff.rfl⟩
  have dis : ∀ s, s < n → m.testBit s = true → g.testBit s = false := fun s hs t => by
    have := ((hm.2 s hs).mp t).2
    simpa using this
  unfold wpY_times
  dsimp only
  refine ym_chances (b := 0) c hg (bm_zero n) hm (fun r fa up1 fbx dnx op1 tp1 bt1 k0 => ?_)
  have Db := sv_Db c.1 r
  have hok := sv_of c.1 r
  obtain ⟨q, hq⟩ := bm_exists n (fun s => m.testBit s = true ∧ sv_H n w (fun s => m.testBit s) (fun s => g.testBit s) s = sv_D n w (fun s => m.testBit s))
  have r2 : sv_rank n w (fun s => q.testBit s) := by
    obtain ⟨z, rk, hz, uz, hr, hs⟩ := r
    refine ⟨z, rk, hz, ?_, fun s hn us => hr s hn ((hq.2 s hn).mp us).1, fun s hn us => ?_⟩
    · show q.testBit z = false
      cases e : q.testBit z
      · rfl
      · have := ((hq.2 z hz).mp e).1
        dsimp only at uz
        rw [this] at uz; cases uz
    · obtain ⟨x, hx, p, lt⟩ := hs s hn ((hq.2 s hn).mp us).1
      exact ⟨x, hx, p, fun uc => lt ((hq.2 x hx).mp uc).1⟩
  have sure : ∀ s, s < n → (tp1 s = bt1 s ↔ sv_H n w (fun s => m.testBit s) (fun s => g.testBit s) s = sv_D n w (fun s => m.testBit s)) := by
    intro s hs
    have f := k0 s hs
    have f1 := fp_int (t := 1) (by decide)
    have u := fp_uniq Db.1 (by decide) f f1
    constructor
    · intro e
      have H0 := sv_H_nonneg (G := fun s => g.testBit s) hok hs
      have H1 := sv_H_le c.1 hok dis hs
      obtain ⟨h1, h2, h3, h4⟩ := f
      have dp := fr_den_pos (sv_H n w (fun s => m.testBit s) (fun s => g.testBit s) s) (sv_D n w (fun s => m.testBit s))
      rw [h1, h2] at e
      have e2 := (lz_eq h3 (by omega)).mp e
      obtain ⟨x, hx, e3, e4⟩ := fr_ex (sv_H n w (fun s => m.testBit s) (fun s => g.testBit s) s) Db.1
      rw [e3, e2, ← e4]
    · intro e
      have := u.mpr (by rw [e, Int.mul_one, Int.one_mul])
      rw [this.1, this.2]
  dsimp only
  refine loop_0 (fun f i (s : Int32 × (Nat → Int32)) => wY_times_10 post (nI g) (nI n) fa up1 f s.1 (nI i) a fbx dnx s.2 tp1 bt1 nt nb)
    (fun i s => (∃ wo, s.1 = nI wo ∧ bm_is n wo (fun x => x < i ∧ ¬ sv_H n w (fun s => m.testBit s) (fun s => g.testBit s) x = sv_D n w (fun s => m.testBit s))) ∧ (∀ x, x < i → (s.2 x = 0 ↔ q.testBit x = false))) n (0, op1) ?_ ?_ ?_
  · exact ⟨⟨0, rfl, bm_iff (bm_zero n) (fun j _ => ⟨fun z => z.elim, fun z => by omega⟩)⟩, fun x hx => absurd hx (by omega)⟩
  · rintro f ⟨wo', op2⟩ ⟨⟨wo, rfl, hwo⟩, k1⟩
    refine br_t (nI_le (Nat.le_refl n) (by omega)) ?_
    dsimp only
    refine loop_0 (fun f i (s : (Nat → Int64) × (Nat → Int64)) => wY_times_89 post (nI wo) (nI n) fa up1 f (nI i) a fbx dnx op2 s.1 s.2 nt nb)
      (fun i s => (∀ x, x < i → s.1 x = Int64.ofInt 0) ∧ (∀ x, x < i → s.2 x = Int64.ofInt 1)) n (tp1, bt1) ?_ ?_ ?_
    · exact ⟨fun x hx => absurd hx (by omega), fun x hx => absurd hx (by omega)⟩
    · rintro f ⟨tp2, bt2⟩ ⟨l1, l2⟩
      refine br_t (nI_le (Nat.le_refl n) (by omega)) ?_
      dsimp only at l1 l2 ⊢
      have R1 : ∀ s, s < n → q.testBit s = true → ys_R w (fun s => q.testBit s) 1 (fun _ => 0) s n = (ch_tot w s : Int) := by
        intro s _ _
        unfold ys_R
        rw [ba_S_zero (fun x _ => by simp)]
        simp
      refine ym_solve (each := 1) (U := fun s => q.testBit s) (t := fun _ => 0) (v := fun t => (ch_tot w t : Int)) c r2 (by omega) (fun _ _ => .inl rfl) k1 l1 l2 R1 ?_ ?_
      · intro s hs _
        have u3 := ch_tot_le c.1 (i := s) (by omega)
        omega
      · intro fa3 fb3 up3 dn3 tp3 bt3 k3
        dsimp only
        have Db2 := sv_Db c.1 r2
        refine loop_0 (fun f i (s : (Nat → Int64) × (Nat → Int64)) => wY_times_124 post (nI wo) (nI n) fa3 fb3 f (nI i) a up3 dn3 op2 s.1 s.2 nt nb)
          (fun i s => (∀ x, i ≤ x → s.1 x = tp3 x ∧ s.2 x = bt3 x) ∧ ∀ s', s' < i → (sv_H n w (fun s => m.testBit s) (fun s => g.testBit s) s' = sv_D n w (fun s => m.testBit s) → s.1 s' = tp3 s' ∧ s.2 s' = bt3 s') ∧ (¬ sv_H n w (fun s => m.testBit s) (fun s => g.testBit s) s' = sv_D n w (fun s => m.testBit s) → s.1 s' = 1 ∧ s.2 s' = 0)) n (tp3, bt3) ?_ ?_ ?_
        · exact ⟨fun x _ => ⟨rfl, rfl⟩, fun x hx => absurd hx (by omega)⟩
        · rintro f ⟨tp4, bt4⟩ ⟨_, o2⟩
          refine br_t (nI_le (Nat.le_refl n) (by omega)) (hp r fa3 fb3 up3 dn3 op2 tp4 bt4 (fun s hs => ⟨fun e => ?_, (o2 s hs).2⟩))
          have o := (o2 s hs).1 e
          dsimp only at o
          rw [o.1, o.2]
          have k := k3 s hs
          by_cases ms : m.testBit s = true
          · have qs : q.testBit s = true := (hq.2 s hs).mpr ⟨ms, e⟩
            rw [if_pos qs, if_pos qs] at k
            rw [if_pos ms]
            refine fp_eq Db2.1 Db.1 ?_ k
            have st := sv_time c.1 (U := fun s => m.testBit s) (G := fun s => g.testBit s) (U' := fun s => q.testBit s && decide (s < n)) r dis (fun s => by
              by_cases sn : s < n
              · simp only [sn, decide_true, Bool.and_true]; exact hq.2 s sn
              · simp only [sn, decide_false, Bool.and_false]
                constructor
                · intro z; cases z
                · rintro ⟨z, _⟩
                  rw [bm_hi hm.1 (by omega)] at z; cases z) (fun t => (ch_tot w t : Int)) hs (by simp [qs, hs])
            have same : (fun s => q.testBit s && decide (s < n)) = fun s => q.testBit s := by
              funext x
              by_cases xn : x < n
              · simp [xn]
              · simp [xn, bm_hi hq.1 (by omega : n ≤ x)]
            rw [same] at st
            grind
          · have qs : ¬ q.testBit s = true := fun z => ms ((hq.2 s hs).mp z).1
            rw [if_neg qs, if_neg qs] at k
            rw [if_neg ms]
            exact fp_eq (by decide) Db.1 (by simp) k
        · rintro f i ⟨tp4, bt4⟩ hi ⟨o1, o2⟩ ih
          dsimp only at o1 o2
          have ei : (nI i).toNatClampNeg = i := nI_clamp (by omega)
          have vi : vp_in (nI i) 5 := vp_in_nI (by omega) (by decide)
          refine br_f (nI_ge hi (by omega)) ?_
          dsimp only
          refine ym_in (bm_lt hwo h5) (by omega) (fun tw => ?_) (fun tw => ?_)
          · refine br_f (by decide) ⟨vi, nm_e ⟨vi, nm_e (nm_r (nI_1 i) (ih (vp_updL tp4 (nI i).toNatClampNeg 1, vp_updL bt4 (nI i).toNatClampNeg 0) ⟨?_, ?_⟩))⟩⟩
            · intro x hx
              dsimp only
              rw [ei, pk_uLn (by omega), pk_uLn (by omega)]; exact o1 x (by omega)
            · intro x hx
              dsimp only
              rw [ei]
              by_cases e : x = i
              · rw [e, pk_uLs, pk_uLs]
                exact ⟨fun z => absurd z ((hwo.2 i hi).mp tw).2, fun _ => ⟨rfl, rfl⟩⟩
              · rw [pk_uLn e, pk_uLn e]; exact o2 x (by omega)
          · refine br_t rfl (nm_r (nI_1 i) (ih (tp4, bt4) ⟨fun x hx => o1 x (by omega), ?_⟩))
            intro x hx
            dsimp only
            by_cases e : x = i
            · rw [e]
              refine ⟨fun _ => o1 i (Nat.le_refl i), fun z => ?_⟩
              rw [(hwo.2 i hi).mpr ⟨hi, z⟩] at tw; cases tw
            · exact o2 x (by omega)
    · rintro f i ⟨tp2, bt2⟩ hi ⟨l1, l2⟩ ih
      dsimp only at l1 l2
      have ei : (nI i).toNatClampNeg = i := nI_clamp (by omega)
      have vi : vp_in (nI i) 5 := vp_in_nI (by omega) (by decide)
      refine br_f (nI_ge hi (by omega)) ⟨vi, nm_e ⟨vi, nm_e (nm_r (nI_1 i) (ih (vp_updL tp2 (nI i).toNatClampNeg 0, vp_updL bt2 (nI i).toNatClampNeg 1) ⟨?_, ?_⟩))⟩⟩
      · intro x hx
        dsimp only
        rw [ei]
        by_cases e : x = i
        · rw [e, pk_uLs]; rfl
        · rw [pk_uLn e]; exact l1 x (by omega)
      · intro x hx
        dsimp only
        rw [ei]
        by_cases e : x = i
        · rw [e, pk_uLs]; rfl
        · rw [pk_uLn e]; exact l2 x (by omega)
  · rintro f i ⟨wo', op2⟩ hi ⟨⟨wo, rfl, hwo⟩, k1⟩ ih
    dsimp only at k1
    have ei : (nI i).toNatClampNeg = i := nI_clamp (by omega)
    have vi : vp_in (nI i) 5 := vp_in_nI (by omega) (by decide)
    refine br_f (nI_ge hi (by omega)) ⟨vi, vi, ?_⟩
    dsimp only
    rw [ei]
    have s55 : ∀ (x4 : Int32) (wz : Nat), bm_is n wz (fun x => x < i + 1 ∧ ¬ sv_H n w (fun s => m.testBit s) (fun s => g.testBit s) x = sv_D n w (fun s => m.testBit s)) → (x4 = 0 ↔ ¬ sv_H n w (fun s => m.testBit s) (fun s => g.testBit s) i = sv_D n w (fun s => m.testBit s)) → wY_times_55 post (wY_times_10 post (nI g) (nI n) fa up1 f) (nI g) (nI i) x4 (nI wz) (nI n) fa up1 a fbx dnx op2 tp1 bt1 nt nb := by
      intro x4 wz hwz hx4
      have fin : ∀ o : Int32, (o = 0 ↔ q.testBit i = false) → ∀ q2, q2 = upd op2 (nI i).toNatClampNeg o → ∀ q3, q3 = nI i + 1 → wY_times_10 post (nI g) (nI n) fa up1 f (nI wz) q3 a fbx dnx q2 tp1 bt1 nt nb := by
        intro o ho
        rw [ei]
        refine nm_e (nm_r (nI_1 i) (ih (nI wz, upd op2 i o) ⟨⟨wz, rfl, hwz⟩, ?_⟩))
        intro x hx
        dsimp only
        by_cases e : x = i
        · rw [e, pk_us]; exact ho
        · rw [pk_un e]; exact k1 x (by omega)
      unfold wY_times_55
      rw [nb_0, nb_1]
      refine ym_in (bm_lt hgm h5) (by omega) (fun tg => ?_) (fun tg => ?_)
      · refine br_f (by decide) ⟨vi, fin 0 ⟨fun _ => ?_, fun _ => rfl⟩⟩
        cases e : q.testBit i
        · rfl
        · have := dis i hi ((hq.2 i hi).mp e).1
          rw [this] at tg; cases tg
      · refine br_t rfl (br_c (fun z => ⟨vi, fin 0 ⟨fun _ => ?_, fun _ => rfl⟩⟩) (fun z => ⟨vi, fin 1 ⟨fun y => absurd y (by decide), fun y => ?_⟩⟩))
        · cases e : q.testBit i
          · rfl
          · exact absurd ((hq.2 i hi).mp e).2 (hx4.mp z)
        · exfalso
          have e : sv_H n w (fun s => m.testBit s) (fun s => g.testBit s) i = sv_D n w (fun s => m.testBit s) := Classical.byContradiction (fun no => z (hx4.mpr no))
          have mi : m.testBit i = true := by
            cases e2 : m.testBit i
            · rw [sv_H_0 (U := fun s => m.testBit s) (G := fun s => g.testBit s) e2 tg] at e
              omega
            · rfl
          rw [(hq.2 i hi).mpr ⟨mi, e⟩] at y; cases y
    by_cases e : tp1 i = bt1 i
    · have e' := (sure i hi).mp e
      refine br_t e (br_f (by decide) (s55 1 wo (bm_iff hwo (fun x hx => ⟨fun y => ⟨by omega, y.2⟩, fun y => ⟨?_, y.2⟩⟩)) ⟨fun y => absurd y (by decide), fun y => absurd e' y⟩))
      have : x ≠ i := fun z => y.2 (z ▸ e')
      omega
    · have e' := fun z => e ((sure i hi).mpr z)
      refine br_f e (br_t rfl ?_)
      rw [bm_shl i (by omega), bm_or]
      refine s55 0 _ (bm_iff (bm_or2 hwo (bm_one hi)) (fun x hx => ⟨?_, ?_⟩)) ⟨fun _ => e', fun _ => rfl⟩
      · rintro (y | y)
        · exact ⟨by omega, y.2⟩
        · rw [y]; exact ⟨by omega, e'⟩
      · rintro ⟨y, z⟩
        by_cases xi : x = i
        · exact .inr xi
        · exact .inl ⟨by omega, z⟩
end
end
section
/-! the mean over one step, and what is told -/
theorem fp_again {x y : Int64} {p q : Int} (f : fp_is x y (Rat.divInt p q).num ((Rat.divInt p q).den : Int)) : fp_is x y p q := by
  unfold fp_is at f ⊢
  rw [Rat.num_divInt_den] at f
  exact f
section
variable {n : Nat} {w : Nat → Nat} {a : Nat → Int32} {fa fb : Int64} {up dn : Nat → Int64} {op : Nat → Int32} {tp bt nt nb : Nat → Int64}
theorem ym_mean {post : SY → Prop} (c : cr_Y n w a) {j : Nat} (hj : j < n) {P : Nat → Int} {Q : Int} (hQ : 0 < Q) (bQ : Q ≤ 1000000000) (bP : ∀ k, k < n → (P k).natAbs ≤ 1000000000)
    (h : ∀ k, k < n → 0 < ch_sw w j k → fp_is (tp k) (bt k) (P k) Q)
    (hp : ∀ x y, fp_is x y (ba_S (fun k => (ch_sw w j k : Int) * P k) n) ((ch_tot w j : Int) * Q) → post (nI n, x, y, a, up, dn, op, tp, bt, nt, nb)) :
    wpY_mean post (nI n, fa, fb, a, up, dn, op, tp, bt, nt, nb) (nI j) := by
  have n5 := c.1.2.1
  have tl := ch_tot_le c.1 (i := j) (by omega)
  have t1 := ch_tot_pos w j
  have V0 : 0 < (ch_tot w j : Int) * Q := Int.mul_pos (by omega) hQ
  have Vb : (ch_tot w j : Int) * Q ≤ 45 * 1000000000 := Int.mul_le_mul (by omega) bQ (by omega) (by omega)
  have Sb : ∀ i, i ≤ n → (ba_S (fun k => (ch_sw w j k : Int) * P k) i).natAbs ≤ i * 9000000000 := by
    intro i
    induction i with
    | zero => intro _; simp [ba_S]
    | succ i ih =>
      intro hi
      have a1 := ih (by omega)
      have sl := ch_sw_le c.1 (i := j) (j := i) (by omega) (by omega)
      have a2 := ba_nm (show ((ch_sw w j i : Nat) : Int).natAbs ≤ 9 by omega) (bP i (by omega))
      have a3 := Int.natAbs_add_le (ba_S (fun k => (ch_sw w j k : Int) * P k) i) ((ch_sw w j i : Int) * P i)
      simp only [ba_S]
      omega
  refine loop_0 (fun f i (s : Int64 × Int64 × Int64 × Int64) => wY_mean_8 post (nI j) f s.1 s.2.1 (nI i) (nI n) s.2.2.1 s.2.2.2 a up dn op tp bt nt nb)
    (fun i s => fp_is s.1 s.2.1 (ba_S (fun k => (ch_sw w j k : Int) * P k) i) ((ch_tot w j : Int) * Q)) n (0, 1, fa, fb) ?_ ?_ ?_
  · exact fp_eq (by decide) V0 (by simp [ba_S]) (fp_int (t := 0) (by decide))
  · rintro f ⟨x, y, fa, fb⟩ g
    dsimp only at g
    refine br_t (nI_le (Nat.le_refl n) (by omega)) ?_
    dsimp only
    have g' := g
    obtain ⟨rfl, rfl, g3, g4⟩ := g
    exact ym_reduce (fr_den_pos _ _) g3 g4 (fun x y f => hp x y (fp_again f))
  · rintro f i ⟨x, y, fa, fb⟩ hi g ih
    dsimp only at g
    have ei : (nI i).toNatClampNeg = i := nI_clamp (by omega)
    have vi : vp_in (nI i) 5 := vp_in_nI (by omega) (by decide)
    have sl := ch_sw_le c.1 (i := j) (j := i) (by omega) (by omega)
    refine br_f (nI_ge hi (by omega)) ?_
    dsimp only
    refine ym_sw c (by omega) (by omega) ?_
    rcases Nat.eq_zero_or_pos (ch_sw w j i) with z | z
    · refine br_t ((cw_le0 (by omega)).mpr z) (nm_r (nI_1 i) (ih (x, y, fa, fb) ?_))
      dsimp only
      simp only [ba_S]
      rw [z]
      simpa using g
    · refine br_f (fun q => by have := (cw_le0 (by omega)).mp q; omega) ⟨vi, vi, ?_⟩
      refine ym_sw c (by omega) (by omega) (ym_tot c (by omega) ?_)
      rw [ei, cv_pos (by omega), cv_pos (by omega)]
      have b1 := ba_nm (bP i hi) (show ((ch_sw w j i : Nat) : Int).natAbs ≤ 9 by omega)
      have b2 : Q * (ch_tot w j : Int) ≤ 1000000000 * 45 := Int.mul_le_mul bQ (by omega) (by omega) (by omega)
      refine ym_mulS (h i hi z) hQ (by omega) (by omega) (by omega) (by omega) (by omega) (fun x1 y1 f1 => ?_)
      dsimp only
      have f1' : fp_is x1 y1 ((ch_sw w j i : Int) * P i) ((ch_tot w j : Int) * Q) := by
        rw [Int.mul_comm (P i), Int.mul_comm Q] at f1; exact f1
      have s1 := Sb i (by omega)
      have b3 : ((ch_sw w j i : Int) * P i).natAbs ≤ 9000000000 := by rw [Int.mul_comm]; omega
      refine ym_addV V0 g f1' (by omega) (by omega) (fun x2 y2 f2 => ?_)
      dsimp only
      exact nm_r (nI_1 i) (ih (x2, y2, x2, y2) f2)
theorem ym_told {post : Int64 → SY → Prop} {st : Int32} {i : Nat} (hi : i < 5) {part : Int32} (h0 : part = 0 → post (tp i) (st, tp i, bt i, a, up, dn, op, tp, bt, nt, nb)) (h1 : ¬ part = 0 → post (bt i) (st, tp i, bt i, a, up, dn, op, tp, bt, nt, nb)) :
    wpY_told post (st, fa, fb, a, up, dn, op, tp, bt, nt, nb) (nI i) part := by
  have ei : (nI i).toNatClampNeg = i := nI_clamp (by omega)
  have vi : vp_in (nI i) 5 := vp_in_nI (by omega) (by decide)
  unfold wpY_told
  dsimp only
  rw [ei]
  exact ⟨vi, nm_e ⟨vi, nm_e (br_c h0 h1)⟩⟩
end
end
section
/-! the relation; construction, set, reach, classOf, closed -/
def i_Rel (k : Nat) (u : SX) (v : SY) : Prop := ∃ (n : Nat) (w : Nat → Nat) (a su : Nat → Int32) (sy ov un : Nat → Int64) (fa fb : Int64) (up dn : Nat → Int64) (op : Nat → Int32) (tp bt nt nb : Nat → Int64),
  u = (nI n, a, su, sy, ov, un) ∧ v = (nI n, fa, fb, a, up, dn, op, tp, bt, nt, nb) ∧ cr_X n w a su
theorem i_up {k : Nat} {u : SX} {v : SY} (h : i_Rel k u v) : i_Rel (k + 5) u v := h
theorem ir_mk {n : Nat} {w : Nat → Nat} {a su : Nat → Int32} (k : Nat) (c : cr_X n w a su) (sy ov un : Nat → Int64) (fa fb : Int64) (up dn : Nat → Int64) (op : Nat → Int32) (tp bt nt nb : Nat → Int64) : i_Rel k (nI n, a, su, sy, ov, un) (nI n, fa, fb, a, up, dn, op, tp, bt, nt, nb) :=
  ⟨n, w, a, su, sy, ov, un, fa, fb, up, dn, op, tp, bt, nt, nb, rfl, rfl, c⟩
theorem ir_0 {n : Nat} (h1 : 1 ≤ n) (h5 : n ≤ 5) : cr_X n (fun _ => 0) (fun _ => 0) (fun _ => 0) :=
  ⟨⟨h1, h5, fun _ _ => Nat.zero_le 9, fun _ _ _ _ _ => rfl⟩, fun _ _ => rfl, fun _ _ => rfl⟩
theorem i_vc0 (k0 : Int32) : wpX_init (fun u => wpY_init (fun v => i_Rel 1 u v) k0) k0 := by
  by_cases h1 : 1 ≤ k0
  · by_cases h5 : k0 ≤ 5
    · have n0 : ¬ k0 < 0 := fun z => by
        have := Int32.lt_of_lt_of_le z (show (0 : Int32) ≤ 1 by decide)
        exact absurd h1 (Int32.not_le.mpr this)
      obtain ⟨n, hn, rfl⟩ := nI_of2 (M := 5) (n := 5) (by decide) n0 h5
      have n1 : 1 ≤ n := by
        rcases Nat.eq_zero_or_pos n with z | z
        · rw [z] at h1; exact absurd h1 (by decide)
        · exact z
      exact br_t h1 (br_t h5 (br_t h1 (br_t h5 (ir_mk 1 (ir_0 n1 hn) _ _ _ _ _ _ _ _ _ _ _ _))))
    · exact br_t h1 (br_f h5 (br_t h1 (br_f h5 (ir_mk (n := 5) 1 (ir_0 (by decide) (by decide)) _ _ _ _ _ _ _ _ _ _ _ _))))
  · exact br_f h1 (br_f h1 (ir_mk (n := 1) 1 (ir_0 (by decide) (by decide)) _ _ _ _ _ _ _ _ _ _ _ _))
theorem i_vc_reach {k : Nat} {u : SX} {v : SY} (I : i_Rel k u v) (hk : k + 5 ≤ 2561) (v1 : Int32) : wpX_reach (fun r => wpY_reach (fun r' => r' = r ∧ i_Rel (k + 5) u v) v v1) u v1 := by
  have J := i_up I
  obtain ⟨n, w, a, su, sy, ov, un, fa, fb, up, dn, op, tp, bt, nt, nb, rfl, rfl, c⟩ := I
  have h5 := c.1.2.1
  unfold wpX_reach wpY_reach
  dsimp only
  by_cases h : ∃ i, i < n ∧ v1 = nI i
  · obtain ⟨i, hi, rfl⟩ := h
    obtain ⟨m, hm⟩ := bm_exists n (gr_R n (fun x y => 0 < ch_sw w x y) (fun _ => False) i (n - 1))
    exact xm_st1 h5 hi (br_f (by decide) (xm_reached c hi hm (ym_st1 h5 hi (br_f (by decide) (ym_reached (cr_XY c) hi hm ⟨rfl, J⟩)))))
  · exact xm_st0 h5 h (br_t rfl (ym_st0 h5 h (br_t rfl ⟨rfl, J⟩)))
theorem i_vc_classOf {k : Nat} {u : SX} {v : SY} (I : i_Rel k u v) (hk : k + 5 ≤ 2561) (v1 : Int32) : wpX_classOf (fun r => wpY_classOf (fun r' => r' = r ∧ i_Rel (k + 5) u v) v v1) u v1 := by
  have J := i_up I
  obtain ⟨n, w, a, su, sy, ov, un, fa, fb, up, dn, op, tp, bt, nt, nb, rfl, rfl, c⟩ := I
  have h5 := c.1.2.1
  unfold wpX_classOf wpY_classOf
  dsimp only
  by_cases h : ∃ i, i < n ∧ v1 = nI i
  · obtain ⟨i, hi, rfl⟩ := h
    obtain ⟨m, hm⟩ := bm_exists n (gr_R n (fun x y => 0 < ch_sw w x y) (fun _ => False) i (n - 1))
    obtain ⟨l, hl⟩ := bm_exists n (fun j => gr_L n (fun x y => 0 < ch_sw w x y) (fun y => y = i) (fun _ => False) (n - 1) j ∧ ¬ j = i)
    refine xm_st1 h5 hi (br_f (by decide) (nm_r (bm_shl i (by omega)) (xm_reached c hi hm (xm_lead (b := 0) c (bm_one hi) (bm_zero n) hl ?_))))
    rw [bm_or, bm_and]
    refine ym_st1 h5 hi (br_f (by decide) (ym_class (cr_XY c) hi (bm_iff (bm_and2 hm (bm_or2 hl (bm_one hi))) (fun j hj => ?_)) ⟨rfl, J⟩))
    constructor
    · rintro ⟨r, (q | q)⟩
      · exact ⟨r, (gr_to hi hj (by omega)).mp q.1⟩
      · subst q; exact ⟨r, gr_R_up (Nat.zero_le _) (show gr_R n _ _ j 0 j from rfl)⟩
    · rintro ⟨r, q⟩
      refine ⟨r, ?_⟩
      by_cases e : j = i
      · exact .inr e
      · exact .inl ⟨(gr_to hi hj (by omega)).mpr q, e⟩
  · exact xm_st0 h5 h (br_t rfl (ym_st0 h5 h (br_t rfl ⟨rfl, J⟩)))
theorem i_vc_closed {k : Nat} {u : SX} {v : SY} (I : i_Rel k u v) (hk : k + 5 ≤ 2561) (v1 : Int32) : wpX_closed (fun r => wpY_closed (fun r' => r' = r ∧ i_Rel (k + 5) u v) v v1) u v1 := by
  have J := i_up I
  obtain ⟨n, w, a, su, sy, ov, un, fa, fb, up, dn, op, tp, bt, nt, nb, rfl, rfl, c⟩ := I
  have h5 := c.1.2.1
  unfold wpX_closed wpY_closed
  dsimp only
  by_cases h : ∃ i, i < n ∧ v1 = nI i
  · obtain ⟨i, hi, rfl⟩ := h
    refine xm_st1 h5 hi (br_f (by decide) (xm_closed c hi (fun q => ?_) (fun q => ?_)))
    · exact br_f (by decide) (ym_st1 h5 hi (br_f (by decide) (ym_closed (cr_XY c) hi (fun _ => br_f (by decide) ⟨rfl, J⟩) (fun z => absurd q z))))
    · exact br_t rfl (ym_st1 h5 hi (br_f (by decide) (ym_closed (cr_XY c) hi (fun z => absurd z q) (fun _ => br_t rfl ⟨rfl, J⟩))))
  · exact xm_st0 h5 h (br_t rfl (ym_st0 h5 h (br_t rfl ⟨rfl, J⟩)))
end
section
/-! the period -/
section
variable {n : Nat} {w : Nat → Nat} {a su : Nat → Int32} {sy ov un : Nat → Int64} {fa fb : Int64} {up dn : Nat → Int64} {op : Nat → Int32} {tp bt nt nb : Nat → Int64}
theorem ym_divL (st : Int32) : ∀ b a' : Nat, a' < 2 ^ 31 → b < 2 ^ 31 → ∀ post : Int32 → Prop, post (nI (Nat.gcd a' b)) → ∃ f, wY_divisor_5 post st fa fb a up dn op tp bt nt nb f (nI a') (nI b) := by
  intro b
  induction b using Nat.strongRecOn with
  | ind b ih =>
    intro a' ha hb post hp
    rcases Nat.eq_zero_or_pos b with z | z
    · subst z
      rw [Nat.gcd_zero_right] at hp
      exact ⟨1, br_t (by decide) hp⟩
    · have r1 := Nat.mod_lt a' z
      obtain ⟨f, hf⟩ := ih (a' % b) r1 b hb (by omega) post (by rw [gc_step]; exact hp)
      have nz : ¬ nI b = 0 := fun q => by have := (cw_0 hb).mp q; omega
      have np : ¬ nI b ≤ 0 := fun q => by have := (cw_le0 hb).mp q; omega
      exact ⟨f + 1, br_f np ⟨nz, nm_r (pk_rem ha z hb) hf⟩⟩
theorem pe_maskstep {i l m m' : Nat} (hm : bm_is n m (pe_W n (fun x y => 0 < ch_sw w x y) i l)) (h' : bm_is n m' (fun j => ∃ x, x < n ∧ m.testBit x = true ∧ 0 < ch_sw w x j)) : bm_is n m' (pe_W n (fun x y => 0 < ch_sw w x y) i (l + 1)) := by
  refine bm_iff h' (fun y hy => ⟨?_, ?_⟩)
  · rintro ⟨x, hx, t, e⟩
    exact ⟨hy, x, hx, (hm.2 x hx).mp t, e⟩
  · rintro ⟨_, x, hx, t, e⟩
    exact ⟨x, hx, (hm.2 x hx).mpr t, e⟩
theorem pe_gT {p : Nat → Prop} {m : Nat} (h : p (m + 1)) : pe_g p (m + 1) = Nat.gcd (pe_g p m) (m + 1) := if_pos h
theorem pe_gF {p : Nat → Prop} {m : Nat} (h : ¬ p (m + 1)) : pe_g p (m + 1) = pe_g p m := if_neg h
theorem xm_period {post : Int32 → Prop} (c : cr_X n w a su) {i : Nat} (hi : i < n) (hp : post (nI (pe_g (fun k => pe_W n (fun x y => 0 < ch_sw w x y) i k i) 13))) : ∃ f, wX_period_20 post (nI i) (nI n) a su sy ov un f 0 (nI (2 ^ i)) 1 := by
  have h5 := c.1.2.1
  refine pk_loop (fun f l (s : Int64 × Int32) => wX_period_20 post (nI i) (nI n) a su sy ov un f s.1 s.2 (nI l)) (fun l s => 1 ≤ l ∧ s.1 = lN (pe_g (fun k => pe_W n (fun x y => 0 < ch_sw w x y) i k i) (l - 1)) ∧ ∃ m, s.2 = nI m ∧ bm_is n m (pe_W n (fun x y => 0 < ch_sw w x y) i (l - 1))) 14 1 (0, nI (2 ^ i)) (by decide) ?_ ?_ ?_
  · exact ⟨by decide, rfl, 2 ^ i, rfl, bm_one hi⟩
  · rintro f ⟨g, x⟩ ⟨_, e, m, rfl, hm⟩
    dsimp only at e
    refine br_t (by decide) ?_
    dsimp only
    rw [e, lN_i]; exact hp
  · rintro f l ⟨g, x⟩ hl ⟨l1, e, m, e2, hm⟩ ih
    dsimp only at e e2
    subst e e2
    obtain ⟨q, rfl⟩ : ∃ q, l = q + 1 := ⟨l - 1, by omega⟩
    rw [Nat.add_sub_cancel] at hm
    refine br_f (nI_nlt (a := 13) (b := q + 1) (by omega) (by decide)) ?_
    obtain ⟨m', hm'⟩ := bm_exists n (fun j => ∃ x, x < n ∧ m.testBit x = true ∧ 0 < ch_sw w x j)
    have hs := pe_maskstep hm hm'
    dsimp only
    rw [Nat.add_sub_cancel]
    refine xm_one c (bm_lt hm h5) hm' (xm_has (bm_lt hm' h5) (by omega) (fun t => ?_) (fun t => ?_))
    · refine br_f (by decide) ?_
      have gl := pe_g_le (fun k => pe_W n (fun x y => 0 < ch_sw w x y) i k i) q
      rw [nI_l (by omega : q + 1 < 2 ^ 31)]
      refine xm_gcd (by omega) (by omega) (nm_r (nI_1 (q + 1)) (ih (_, nI m') ⟨by omega, ?_, m', rfl, hs⟩))
      dsimp only
      rw [Nat.add_sub_cancel, pe_gT ((hs.2 i hi).mp t)]
      rfl
    · refine br_t rfl (nm_r (nI_1 (q + 1)) (ih (_, nI m') ⟨by omega, ?_, m', rfl, hs⟩))
      dsimp only
      rw [Nat.add_sub_cancel, pe_gF (fun z => by rw [(hs.2 i hi).mpr z] at t; cases t)]
      rfl
theorem ym_period {post : Int32 → Prop} (c : cr_Y n w a) {i : Nat} (hi : i < n) (hp : post (nI (pe_g (fun k => pe_W n (fun x y => 0 < ch_sw w x y) i k i) 59))) : ∃ f, wY_period_19 post (nI i) (nI n) fa fb a up dn op tp bt nt nb f 0 (nI (2 ^ i)) 1 := by
  have h5 := c.1.2.1
  refine pk_loop (fun f l (s : Int32 × Int32) => wY_period_19 post (nI i) (nI n) fa fb a up dn op tp bt nt nb f s.1 s.2 (nI l)) (fun l s => 1 ≤ l ∧ s.1 = nI (pe_g (fun k => pe_W n (fun x y => 0 < ch_sw w x y) i k i) (l - 1)) ∧ ∃ m, s.2 = nI m ∧ bm_is n m (pe_W n (fun x y => 0 < ch_sw w x y) i (l - 1))) 60 1 (0, nI (2 ^ i)) (by decide) ?_ ?_ ?_
  · exact ⟨by decide, rfl, 2 ^ i, rfl, bm_one hi⟩
  · rintro f ⟨g, x⟩ ⟨_, e, m, rfl, hm⟩
    dsimp only at e
    refine br_t (by decide) ?_
    dsimp only
    rw [e]; exact hp
  · rintro f l ⟨g, x⟩ hl ⟨l1, e, m, e2, hm⟩ ih
    dsimp only at e e2
    subst e e2
    obtain ⟨q, rfl⟩ : ∃ q, l = q + 1 := ⟨l - 1, by omega⟩
    rw [Nat.add_sub_cancel] at hm
    refine br_f (nI_ge (b := 60) hl (by decide)) ?_
    obtain ⟨m', hm'⟩ := bm_exists n (fun j => ∃ x, x < n ∧ m.testBit x = true ∧ 0 < ch_sw w x j)
    have hs := pe_maskstep hm hm'
    dsimp only
    rw [Nat.add_sub_cancel]
    refine ym_one c (bm_lt hm h5) hm' (ym_in (bm_lt hm' h5) (by omega) (fun t => ?_) (fun t => ?_))
    · refine br_f (by decide) ?_
      have gl := pe_g_le (fun k => pe_W n (fun x y => 0 < ch_sw w x y) i k i) q
      refine ym_divL (nI n) _ _ (by omega) (by omega) _ (nm_r (nI_1 (q + 1)) (ih (_, nI m') ⟨by omega, ?_, m', rfl, hs⟩))
      dsimp only
      rw [Nat.add_sub_cancel, pe_gT ((hs.2 i hi).mp t)]
      rfl
    · refine br_t rfl (nm_r (nI_1 (q + 1)) (ih (_, nI m') ⟨by omega, ?_, m', rfl, hs⟩))
      dsimp only
      rw [Nat.add_sub_cancel, pe_gF (fun z => by rw [(hs.2 i hi).mpr z] at t; cases t)]
      rfl
end
theorem i_vc_period {k : Nat} {u : SX} {v : SY} (I : i_Rel k u v) (hk : k + 5 ≤ 2561) (v1 : Int32) : wpX_period (fun r => wpY_period (fun r' => r' = r ∧ i_Rel (k + 5) u v) v v1) u v1 := by
  have J := i_up I
  obtain ⟨n, w, a, su, sy, ov, un, fa, fb, up, dn, op, tp, bt, nt, nb, rfl, rfl, c⟩ := I
  have h5 := c.1.2.1
  unfold wpX_period wpY_period
  dsimp only
  by_cases h : ∃ i, i < n ∧ v1 = nI i
  · obtain ⟨i, hi, rfl⟩ := h
    refine xm_st1 h5 hi (br_f (by decide) (nm_r (bm_shl i (by omega)) (xm_period c hi (ym_st1 h5 hi (br_f (by decide) (nm_r (bm_shl i (by omega)) (ym_period (cr_XY c) hi ⟨?_, J⟩)))))))
    rw [pe_g_eq h5 hi 59 (by decide)]
  · exact xm_st0 h5 h (br_t rfl (ym_st0 h5 h (br_t rfl ⟨rfl, J⟩)))
end
section
/-! refusals; hit, before, time -/
theorem rf_of (x : Int32) : x = nI x.toBitVec.toNat := by
  apply Int32.toBitVec_inj.1
  show x.toBitVec = BitVec.ofNat 32 x.toBitVec.toNat
  simp
theorem rf_p2 {n : Nat} (h : n ≤ 5) : 2 ^ n ≤ 32 := Nat.pow_le_pow_right (n := 2) (i := n) (j := 5) (by decide) h
theorem rf_or {x y : Int32} {h n : Nat} (hn : n ≤ 5) (hh : h < 2 ^ n) (e : x ||| y = nI h) : (∃ g, g < 2 ^ n ∧ x = nI g) ∧ (∃ g, g < 2 ^ n ∧ y = nI g) := by
  have p : 2 ^ n ≤ 32 := rf_p2 hn
  have t : x.toBitVec.toNat ||| y.toBitVec.toNat = h := by
    have := congrArg (fun z : Int32 => z.toBitVec.toNat) e
    rw [Int32.toBitVec_or, BitVec.toNat_or] at this
    rw [this]
    exact Nat.mod_eq_of_lt (by omega)
  have l1 : x.toBitVec.toNat ≤ h := t ▸ Nat.left_le_or
  have l2 : y.toBitVec.toNat ≤ h := t ▸ Nat.right_le_or
  exact ⟨⟨_, by omega, rf_of x⟩, ⟨_, by omega, rf_of y⟩⟩
theorem fp_can {p q : Int} (hq : 0 < q) (bp : p.natAbs < 9223372036854775808) (bq : q < 9223372036854775808) : ∃ x y, fp_is x y p q := ⟨_, _, fp_mk hq bp bq rfl rfl⟩
section
variable {n : Nat} {w : Nat → Nat} {a su : Nat → Int32} {sy ov un : Nat → Int64} {fa fb : Int64} {up dn : Nat → Int64} {op : Nat → Int32} {tp bt nt nb : Nat → Int64}
theorem rf_x {post : Int32 → Prop} (h5 : n ≤ 5) {i j g : Nat} (hi : i < n) (hj : j < n) (hg : g < 2 ^ n) {part : Int32} (hp : part = 0 ∨ part = 1) (h : post 0) : wpX_refusal post (nI n, a, su, sy, ov, un) (nI i) (nI j) (nI g) part := by
  have p : 2 ^ n ≤ 32 := rf_p2 h5
  unfold wpX_refusal
  dsimp only
  rw [bm_shl n (by omega)]
  refine xm_st1 h5 hi (br_f (by decide) (xm_st1 h5 hj (br_f (by decide) (br_f (nI_pos (by omega)) (br_t (nI_lt hg (by omega)) ?_)))))
  rcases hp with e | e
  · exact br_t e h
  · exact br_f (by rw [e]; decide) (br_t e h)
theorem rf_y {post : Int32 → Prop} (h5 : n ≤ 5) {i g : Nat} (hi : i < n) (hg : g < 2 ^ n) {part : Int32} (hp : part = 0 ∨ part = 1) (h : post 0) : wpY_bad post (nI n, fa, fb, a, up, dn, op, tp, bt, nt, nb) (nI i) (nI g) part := by
  have p : 2 ^ n ≤ 32 := rf_p2 h5
  unfold wpY_bad wpY_isSet
  dsimp only
  rw [bm_shl n (by omega)]
  refine ym_st1 h5 hi (br_f (by decide) (br_f (nI_pos (by omega)) (br_f (nI_ge hg (by omega)) (br_f (by decide) ?_))))
  rcases hp with e | e
  · exact br_t e h
  · exact br_f (by rw [e]; decide) (br_t e h)
theorem rf_yp {post : Int32 → Prop} (h5 : n ≤ 5) {i j : Nat} (hi : i < n) (hj : j < n) {part : Int32} (hp : part = 0 ∨ part = 1) (h : post 0) : wpY_badPair post (nI n, fa, fb, a, up, dn, op, tp, bt, nt, nb) (nI i) (nI j) part := by
  unfold wpY_badPair
  dsimp only
  refine ym_st1 h5 hi (br_f (by decide) (ym_st1 h5 hj (br_f (by decide) ?_)))
  rcases hp with e | e
  · exact br_t e h
  · exact br_f (by rw [e]; decide) (br_t e h)
/-- a call with a state, a set and a part: either all is well, or both sides refuse with one answer -/
theorem rf_set (h5 : n ≤ 5) (v1 v2 v3 : Int32) : (∃ i g, i < n ∧ g < 2 ^ n ∧ v1 = nI i ∧ v2 = nI g ∧ (v3 = 0 ∨ v3 = 1)) ∨
    ∃ z : Int32, ¬ z = 0 ∧ ¬ 0 ≤ z ∧ (∀ post : Int32 → Prop, post z → wpX_refusal post (nI n, a, su, sy, ov, un) v1 v1 v2 v3) ∧ ∀ post : Int32 → Prop, post z → wpY_bad post (nI n, fa, fb, a, up, dn, op, tp, bt, nt, nb) v1 v2 v3 := by
  have p : 2 ^ n ≤ 32 := rf_p2 h5
  by_cases h : ∃ i, i < n ∧ v1 = nI i
  · obtain ⟨i, hi, rfl⟩ := h
    have setbad : (¬ ∃ g, g < 2 ^ n ∧ v2 = nI g) → v2 < 0 ∨ (¬ v2 < 0 ∧ nI (2 ^ n) ≤ v2) := by
      intro no
      rcases pk_ix v2 (n := 2 ^ n) (by omega) with z | z | z
      · exact .inl z
      · by_cases q : v2 < 0
        · exact .inl q
        · exact .inr ⟨q, z⟩
      · exact absurd z no
    by_cases hg : ∃ g, g < 2 ^ n ∧ v2 = nI g
    · obtain ⟨g, hg, rfl⟩ := hg
      by_cases hp : v3 = 0 ∨ v3 = 1
      · exact .inl ⟨i, g, hi, hg, rfl, rfl, hp⟩
      · refine .inr ⟨-3, by decide, by decide, fun post h => ?_, fun post h => ?_⟩
        · unfold wpX_refusal
          dsimp only
          rw [bm_shl n (by omega)]
          exact xm_st1 h5 hi (br_f (by decide) (xm_st1 h5 hi (br_f (by decide) (br_f (nI_pos (by omega)) (br_t (nI_lt hg (by omega)) (br_f (fun z => hp (.inl z)) (br_f (fun z => hp (.inr z)) h)))))))
        · unfold wpY_bad wpY_isSet
          dsimp only
          rw [bm_shl n (by omega)]
          exact ym_st1 h5 hi (br_f (by decide) (br_f (nI_pos (by omega)) (br_f (nI_ge hg (by omega)) (br_f (by decide) (br_f (fun z => hp (.inl z)) (br_f (fun z => hp (.inr z)) h))))))
    · refine .inr ⟨-2, by decide, by decide, fun post h => ?_, fun post h => ?_⟩
      · unfold wpX_refusal
        dsimp only
        rw [bm_shl n (by omega)]
        refine xm_st1 h5 hi (br_f (by decide) (xm_st1 h5 hi (br_f (by decide) ?_)))
        rcases setbad hg with z | ⟨z, y⟩
        · exact br_t z h
        · exact br_f z (br_f (Int32.not_lt.mpr y) h)
      · unfold wpY_bad wpY_isSet
        dsimp only
        rw [bm_shl n (by omega)]
        refine ym_st1 h5 hi (br_f (by decide) ?_)
        rcases setbad hg with z | ⟨z, y⟩
        · exact br_t z (br_t rfl h)
        · exact br_f z (br_t y (br_t rfl h))
  · refine .inr ⟨-1, by decide, by decide, fun post hp => ?_, fun post hp => ?_⟩
    · unfold wpX_refusal
      dsimp only
      exact xm_st0 h5 h (br_t rfl hp)
    · unfold wpY_bad
      dsimp only
      exact ym_st0 h5 h (br_t rfl hp)
theorem rf_pair (h5 : n ≤ 5) (v1 v2 v3 : Int32) : (∃ i j, i < n ∧ j < n ∧ v1 = nI i ∧ v2 = nI j ∧ (v3 = 0 ∨ v3 = 1)) ∨
    ∃ z : Int32, ¬ z = 0 ∧ ¬ 0 ≤ z ∧ (∀ post : Int32 → Prop, post z → wpX_refusal post (nI n, a, su, sy, ov, un) v1 v2 0 v3) ∧ ∀ post : Int32 → Prop, post z → wpY_badPair post (nI n, fa, fb, a, up, dn, op, tp, bt, nt, nb) v1 v2 v3 := by
  have p : 2 ^ n ≤ 32 := rf_p2 h5
  have p1 := Nat.two_pow_pos n
  by_cases h : ∃ i, i < n ∧ v1 = nI i
  · obtain ⟨i, hi, rfl⟩ := h
    by_cases h2 : ∃ j, j < n ∧ v2 = nI j
    · obtain ⟨j, hj, rfl⟩ := h2
      by_cases hp : v3 = 0 ∨ v3 = 1
      · exact .inl ⟨i, j, hi, hj, rfl, rfl, hp⟩
      · refine .inr ⟨-3, by decide, by decide, fun post h => ?_, fun post h => ?_⟩
        · unfold wpX_refusal
          dsimp only
          rw [bm_shl n (by omega)]
          exact xm_st1 h5 hi (br_f (by decide) (xm_st1 h5 hj (br_f (by decide) (br_f (by decide) (br_t (nI_lt (a := 0) p1 (by omega)) (br_f (fun z => hp (.inl z)) (br_f (fun z => hp (.inr z)) h)))))))
        · unfold wpY_badPair
          dsimp only
          exact ym_st1 h5 hi (br_f (by decide) (ym_st1 h5 hj (br_f (by decide) (br_f (fun z => hp (.inl z)) (br_f (fun z => hp (.inr z)) h)))))
    · refine .inr ⟨-1, by decide, by decide, fun post hp => ?_, fun post hp => ?_⟩
      · unfold wpX_refusal
        dsimp only
        exact xm_st1 h5 hi (br_f (by decide) (xm_st0 h5 h2 (br_t rfl hp)))
      · unfold wpY_badPair
        dsimp only
        exact ym_st1 h5 hi (br_f (by decide) (ym_st0 h5 h2 (br_t rfl hp)))
  · refine .inr ⟨-1, by decide, by decide, fun post hp => ?_, fun post hp => ?_⟩
    · unfold wpX_refusal
      dsimp only
      exact xm_st0 h5 h (br_t rfl hp)
    · unfold wpY_badPair
      dsimp only
      exact ym_st0 h5 h (br_t rfl hp)
end
theorem i_vc_hit {k : Nat} {u : SX} {v : SY} (I : i_Rel k u v) (hk : k + 5 ≤ 2561) (v1 : Int32) (v2 : Int32) (v3 : Int32) : wpX_hit (fun r u' => wpY_hit (fun r' v' => r' = r ∧ i_Rel (k + 5) u' v') v v1 v2 v3) u v1 v2 v3 := by
  have J := i_up I
  obtain ⟨n, w, a, su, sy, ov, un, fa, fb, up, dn, op, tp, bt, nt, nb, rfl, rfl, c⟩ := I
  have h5 := c.1.2.1
  unfold wpX_hit wpY_hit
  dsimp only
  rcases rf_set (n := n) (a := a) (su := su) (sy := sy) (ov := ov) (un := un) (fa := fa) (fb := fb) (up := up) (dn := dn) (op := op) (tp := tp) (bt := bt) (nt := nt) (nb := nb) h5 v1 v2 v3 with ⟨i, g, hi, hg, rfl, rfl, hpart⟩ | ⟨z, z0, z1, hX, hY⟩
  · obtain ⟨m, hm⟩ := bm_exists n (fun i => gr_L n (fun x y => 0 < ch_sw w x y) (fun y => g.testBit y = true) (fun _ => False) (n - 1) i ∧ ¬ g.testBit i = true)
    refine rf_x h5 hi hi hg hpart (br_t rfl (xm_chances (b := 0) c hg (bm_zero n) hm (fun r sy' hs => ?_)))
    have hok := sv_of c.1 r
    have dis : ∀ s, s < n → m.testBit s = true → g.testBit s = false := fun s hs t => by
      have := ((hm.2 s hs).mp t).2
      simpa using this
    have Db := sv_Db c.1 r
    have H0 := sv_H_nonneg (U := fun s => m.testBit s) (G := fun s => g.testBit s) hok hi
    have H1 := sv_H_le (U := fun s => m.testBit s) (G := fun s => g.testBit s) c.1 hok dis hi
    obtain ⟨x, y, f⟩ := fp_can (p := sv_H n w (fun s => m.testBit s) (fun s => g.testBit s) i) Db.1 (by omega) (by omega)
    dsimp only
    refine xm_solved (by omega) (hs i hi).2 (hs i hi).1 H0 Db.1 (by omega) (by omega) f (fun q => ?_) (fun q => ?_)
    · refine rf_y h5 hi hg hpart (br_t (by decide) (ym_chances (b := 0) (cr_XY c) hg (bm_zero n) hm (fun _ fa' fb' up' dn' op' tp' bt' k0 => ?_)))
      have eq := (fp_uniq Db.1 Db.1 (k0 i hi) f).mpr rfl
      dsimp only
      exact ym_told (by omega) (fun _ => ⟨eq.1, ir_mk (k + 5) c _ _ _ _ _ _ _ _ _ _ _ _⟩) (fun z => absurd q z)
    · refine rf_y h5 hi hg hpart (br_t (by decide) (ym_chances (b := 0) (cr_XY c) hg (bm_zero n) hm (fun _ fa' fb' up' dn' op' tp' bt' k0 => ?_)))
      have eq := (fp_uniq Db.1 Db.1 (k0 i hi) f).mpr rfl
      dsimp only
      exact ym_told (by omega) (fun z => absurd z q) (fun _ => ⟨eq.2, ir_mk (k + 5) c _ _ _ _ _ _ _ _ _ _ _ _⟩)
  · exact hX _ (br_f z0 (hY _ (br_f z1 ⟨rfl, J⟩)))
theorem i_vc_before {k : Nat} {u : SX} {v : SY} (I : i_Rel k u v) (hk : k + 5 ≤ 2561) (v1 : Int32) (v2 : Int32) (v3 : Int32) (v4 : Int32) : wpX_before (fun r u' => wpY_before (fun r' v' => r' = r ∧ i_Rel (k + 5) u' v') v v1 v2 v3 v4) u v1 v2 v3 v4 := by
  have J := i_up I
  obtain ⟨n, w, a, su, sy, ov, un, fa, fb, up, dn, op, tp, bt, nt, nb, rfl, rfl, c⟩ := I
  have h5 := c.1.2.1
  have p := rf_p2 h5
  unfold wpX_before wpY_before wpY_isSet
  dsimp only
  rw [bm_shl n (by omega)]
  have notset : ∀ x : Int32, (¬ ∃ g, g < 2 ^ n ∧ x = nI g) → x < 0 ∨ (¬ x < 0 ∧ nI (2 ^ n) ≤ x) := by
    intro x no
    rcases pk_ix x (n := 2 ^ n) (by omega) with z | z | z
    · exact .inl z
    · by_cases q : x < 0
      · exact .inl q
      · exact .inr ⟨q, z⟩
    · exact absurd z no
  by_cases h1 : ∃ i, i < n ∧ v1 = nI i
  · obtain ⟨i, hi, rfl⟩ := h1
    by_cases h2 : (∃ g, g < 2 ^ n ∧ v2 = nI g) ∧ ∃ b, b < 2 ^ n ∧ v3 = nI b
    · obtain ⟨⟨g, hg, rfl⟩, ⟨b, hb, rfl⟩⟩ := h2
      have hgb : g ||| b < 2 ^ n := Nat.or_lt_two_pow hg hb
      by_cases hpart : v4 = 0 ∨ v4 = 1
      · rw [bm_or, bm_and]
        refine rf_x h5 hi hi hgb hpart (br_t rfl ?_)
        have hbm : bm_is n b (fun y => b.testBit y = true) := ⟨hb, fun _ _ => Iff.rfl⟩
        have hgm : bm_is n g (fun y => g.testBit y = true) := ⟨hg, fun _ _ => Iff.rfl⟩
        have ha := bm_and2 hgm hbm
        have lt : g &&& b < 2 ^ 31 := Nat.lt_trans (bm_lt ha h5) (by decide)
        by_cases z : g &&& b = 0
        · refine br_t (by rw [z]; rfl) ?_
          obtain ⟨m, hm⟩ := bm_exists n (fun i => gr_L n (fun x y => 0 < ch_sw w x y) (fun y => g.testBit y = true) (fun y => b.testBit y = true) (n - 1) i ∧ ¬ g.testBit i = true)
          refine xm_chances c hg hbm hm (fun r sy' hs => ?_)
          have hok := sv_of c.1 r
          have dis : ∀ s, s < n → m.testBit s = true → g.testBit s = false := fun s hs t => by
            have := ((hm.2 s hs).mp t).2
            simpa using this
          have Db := sv_Db c.1 r
          have H0 := sv_H_nonneg (U := fun s => m.testBit s) (G := fun s => g.testBit s) hok hi
          have H1 := sv_H_le (U := fun s => m.testBit s) (G := fun s => g.testBit s) c.1 hok dis hi
          obtain ⟨x, y, f⟩ := fp_can (p := sv_H n w (fun s => m.testBit s) (fun s => g.testBit s) i) Db.1 (by omega) (by omega)
          dsimp only
          refine xm_solved (by omega) (hs i hi).2 (hs i hi).1 H0 Db.1 (by omega) (by omega) f (fun q => ?_) (fun q => ?_)
          · refine ym_st1 h5 hi (br_f (by decide) (br_f (nI_pos (by omega)) (br_f (nI_ge hg (by omega)) (br_f (by decide) (br_f (nI_pos (by omega)) (br_f (nI_ge hb (by omega)) (br_f (by decide) (br_t q ?_))))))))
            unfold wY_before_47
            rw [bm_and]
            refine br_t (by rw [z]; rfl) (ym_chances (cr_XY c) hg hbm hm (fun _ fa' fb' up' dn' op' tp' bt' k0 => ?_))
            have eq := (fp_uniq Db.1 Db.1 (k0 i hi) f).mpr rfl
            dsimp only
            exact ym_told (by omega) (fun _ => ⟨eq.1, ir_mk (k + 5) c _ _ _ _ _ _ _ _ _ _ _ _⟩) (fun z => absurd q z)
          · refine ym_st1 h5 hi (br_f (by decide) (br_f (nI_pos (by omega)) (br_f (nI_ge hg (by omega)) (br_f (by decide) (br_f (nI_pos (by omega)) (br_f (nI_ge hb (by omega)) (br_f (by decide) (br_f q (br_t (hpart.resolve_left q) ?_)))))))))
            unfold wY_before_47
            rw [bm_and]
            refine br_t (by rw [z]; rfl) (ym_chances (cr_XY c) hg hbm hm (fun _ fa' fb' up' dn' op' tp' bt' k0 => ?_))
            have eq := (fp_uniq Db.1 Db.1 (k0 i hi) f).mpr rfl
            dsimp only
            exact ym_told (by omega) (fun z => absurd z q) (fun _ => ⟨eq.2, ir_mk (k + 5) c _ _ _ _ _ _ _ _ _ _ _ _⟩)
        · refine br_f (fun q => z ((cw_0 lt).mp q)) ?_
          refine ym_st1 h5 hi (br_f (by decide) (br_f (nI_pos (by omega)) (br_f (nI_ge hg (by omega)) (br_f (by decide) (br_f (nI_pos (by omega)) (br_f (nI_ge hb (by omega)) (br_f (by decide) (br_c (fun _ => ?_) (fun q => br_t (hpart.resolve_left q) ?_)))))))))
          · unfold wY_before_47
            rw [bm_and]
            exact br_f (fun q => z ((cw_0 lt).mp q)) ⟨rfl, J⟩
          · unfold wY_before_47
            rw [bm_and]
            exact br_f (fun q => z ((cw_0 lt).mp q)) ⟨rfl, J⟩
      · skip
        rw [bm_or]
        unfold wpX_refusal
        dsimp only
        rw [bm_shl n (by omega)]
        refine xm_st1 h5 hi (br_f (by decide) (xm_st1 h5 hi (br_f (by decide) (br_f (nI_pos (by omega)) (br_t (nI_lt hgb (by omega)) (br_f (fun z => hpart (.inl z)) (br_f (fun z => hpart (.inr z)) (br_f (by decide) ?_))))))))
        exact ym_st1 h5 hi (br_f (by decide) (br_f (nI_pos (by omega)) (br_f (nI_ge hg (by omega)) (br_f (by decide) (br_f (nI_pos (by omega)) (br_f (nI_ge hb (by omega)) (br_f (by decide) (br_f (fun z => hpart (.inl z)) (br_f (fun z => hpart (.inr z)) ⟨rfl, J⟩)))))))))
    · have bad : ¬ ∃ g, g < 2 ^ n ∧ v2 ||| v3 = nI g := by
        rintro ⟨g, hg, e⟩
        exact h2 (rf_or h5 hg e)
      unfold wpX_refusal
      dsimp only
      rw [bm_shl n (by omega)]
      refine xm_st1 h5 hi (br_f (by decide) (xm_st1 h5 hi (br_f (by decide) ?_)))
      by_cases hg : ∃ g, g < 2 ^ n ∧ v2 = nI g
      · have hb : ¬ ∃ b, b < 2 ^ n ∧ v3 = nI b := fun z => h2 ⟨hg, z⟩
        obtain ⟨g, hg, rfl⟩ := hg
        rcases notset _ bad with z | ⟨z, y⟩
        · refine br_t z (br_f (by decide) (ym_st1 h5 hi (br_f (by decide) (br_f (nI_pos (by omega)) (br_f (nI_ge hg (by omega)) (br_f (by decide) ?_))))))
          rcases notset v3 hb with q | ⟨q, r⟩
          · exact br_t q (br_t rfl ⟨rfl, J⟩)
          · exact br_f q (br_t r (br_t rfl ⟨rfl, J⟩))
        · refine br_f z (br_f (Int32.not_lt.mpr y) (br_f (by decide) (ym_st1 h5 hi (br_f (by decide) (br_f (nI_pos (by omega)) (br_f (nI_ge hg (by omega)) (br_f (by decide) ?_)))))))
          rcases notset v3 hb with q | ⟨q, r⟩
          · exact br_t q (br_t rfl ⟨rfl, J⟩)
          · exact br_f q (br_t r (br_t rfl ⟨rfl, J⟩))
      · rcases notset _ bad with z | ⟨z, y⟩
        · refine br_t z (br_f (by decide) (ym_st1 h5 hi (br_f (by decide) ?_)))
          rcases notset v2 hg with q | ⟨q, r⟩
          · exact br_t q (br_t rfl ⟨rfl, J⟩)
          · exact br_f q (br_t r (br_t rfl ⟨rfl, J⟩))
        · refine br_f z (br_f (Int32.not_lt.mpr y) (br_f (by decide) (ym_st1 h5 hi (br_f (by decide) ?_))))
          rcases notset v2 hg with q | ⟨q, r⟩
          · exact br_t q (br_t rfl ⟨rfl, J⟩)
          · exact br_f q (br_t r (br_t rfl ⟨rfl, J⟩))
  · unfold wpX_refusal
    dsimp only
    exact xm_st0 h5 h1 (br_t rfl (br_f (by decide) (ym_st0 h5 h1 (br_t rfl ⟨rfl, J⟩))))
end
section
/-! time and visits -/
theorem pt_of {v3 : Int32} (h : v3 = 0 ∨ v3 = 1) (q : ¬ v3 = 0) : v3 = 1 := h.resolve_left q
theorem i_vc_time {k : Nat} {u : SX} {v : SY} (I : i_Rel k u v) (hk : k + 5 ≤ 2561) (v1 : Int32) (v2 : Int32) (v3 : Int32) : wpX_time (fun r u' => wpY_time (fun r' v' => r' = r ∧ i_Rel (k + 5) u' v') v v1 v2 v3) u v1 v2 v3 := by
  have J := i_up I
  obtain ⟨n, w, a, su, sy, ov, un, fa, fb, up, dn, op, tp, bt, nt, nb, rfl, rfl, c⟩ := I
  have h5 := c.1.2.1
  unfold wpX_time wpY_time
  dsimp only
  rcases rf_set (n := n) (a := a) (su := su) (sy := sy) (ov := ov) (un := un) (fa := fa) (fb := fb) (up := up) (dn := dn) (op := op) (tp := tp) (bt := bt) (nt := nt) (nb := nb) h5 v1 v2 v3 with ⟨i, g, hi, hg, rfl, rfl, hpart⟩ | ⟨z, z0, z1, hX, hY⟩
  · obtain ⟨m, hm⟩ := bm_exists n (fun i => gr_L n (fun x y => 0 < ch_sw w x y) (fun y => g.testBit y = true) (fun _ => False) (n - 1) i ∧ ¬ g.testBit i = true)
    refine rf_x h5 hi hi hg hpart (br_t rfl (xm_chances (b := 0) c hg (bm_zero n) hm (fun r sy' hs => ?_)))
    have hok := sv_of c.1 r
    have dis : ∀ s, s < n → m.testBit s = true → g.testBit s = false := fun s hs t => by
      have := ((hm.2 s hs).mp t).2
      simpa using this
    have Db := sv_Db c.1 r
    have H0 := sv_H_nonneg (U := fun s => m.testBit s) (G := fun s => g.testBit s) hok hi
    have H1 := sv_H_le (U := fun s => m.testBit s) (G := fun s => g.testBit s) c.1 hok dis hi
    have d5 : (nI i * 6 + 5).toNatClampNeg = 6 * i + 5 := by
      rw [show nI i * 6 + 5 = nI (6 * i + 5) from ix_6 i 5]; exact nI_clamp (by omega)
    have v5 : vp_in (nI i * 6 + 5) 30 := by rw [show nI i * 6 + 5 = nI (6 * i + 5) from ix_6 i 5]; exact vp_in_nI (by omega) (by decide)
    have di : (nI i * 6 + nI i).toNatClampNeg = 6 * i + i := by rw [ix_6]; exact nI_clamp (by omega)
    dsimp only
    refine ⟨v5, by rw [ix_6]; exact vp_in_nI (by omega) (by decide), ?_⟩
    rw [d5, di, (hs i hi).1, (hs i hi).2]
    by_cases e : sv_H n w (fun s => m.testBit s) (fun s => g.testBit s) i = sv_D n w (fun s => m.testBit s)
    · refine br_t (by rw [e]) (xm_times c hg hm (fun _ sy2 hs2 => ?_))
      have Tb : 0 ≤ (if m.testBit i = true then sv_F n w (fun s => m.testBit s) i (fun t => (ch_tot w t : Int)) else 0) ∧ (if m.testBit i = true then sv_F n w (fun s => m.testBit s) i (fun t => (ch_tot w t : Int)) else 0).natAbs ≤ 98415000 := by
        split
        · rename_i mi
          refine ⟨sv_nonneg hok hi mi (fun t _ _ => by omega), sv_Fb c.1 hi mi (fun t ht _ => ?_)⟩
          have := ch_tot_le c.1 (i := t) (by omega)
          omega
        · exact ⟨Int.le_refl _, by decide⟩
      obtain ⟨x, y, f⟩ := fp_can (p := if m.testBit i = true then sv_F n w (fun s => m.testBit s) i (fun t => (ch_tot w t : Int)) else 0) Db.1 (by omega) (by omega)
      dsimp only
      refine xm_solved (by omega) (hs2 i hi).2 (hs2 i hi).1 Tb.1 Db.1 (by omega) (by omega) f (fun q => ?_) (fun q => ?_)
      · refine rf_y h5 hi hg hpart (br_t (by decide) (ym_times (cr_XY c) hg hm (fun _ fa' fb' up' dn' op' tp' bt' k0 => ?_)))
        have eq := (fp_uniq Db.1 Db.1 ((k0 i hi).1 e) f).mpr rfl
        dsimp only
        exact ym_told (by omega) (fun _ => ⟨eq.1, ir_mk (k + 5) c _ _ _ _ _ _ _ _ _ _ _ _⟩) (fun z => absurd q z)
      · refine rf_y h5 hi hg hpart (br_t (by decide) (ym_times (cr_XY c) hg hm (fun _ fa' fb' up' dn' op' tp' bt' k0 => ?_)))
        have eq := (fp_uniq Db.1 Db.1 ((k0 i hi).1 e) f).mpr rfl
        dsimp only
        exact ym_told (by omega) (fun z => absurd z q) (fun _ => ⟨eq.2, ir_mk (k + 5) c _ _ _ _ _ _ _ _ _ _ _ _⟩)
    · refine br_f (fun q => e ((lz_eq (by omega) (by omega)).mp q)) (xm_partInf (fun q => ?_) (fun q => ?_))
      · refine rf_y h5 hi hg hpart (br_t (by decide) (ym_times (cr_XY c) hg hm (fun _ fa' fb' up' dn' op' tp' bt' k0 => ?_)))
        dsimp only
        exact ym_told (by omega) (fun _ => ⟨((k0 i hi).2 e).1, ir_mk (k + 5) c _ _ _ _ _ _ _ _ _ _ _ _⟩) (fun z => absurd q z)
      · refine rf_y h5 hi hg hpart (br_t (by decide) (ym_times (cr_XY c) hg hm (fun _ fa' fb' up' dn' op' tp' bt' k0 => ?_)))
        dsimp only
        exact ym_told (by omega) (fun z => absurd z q) (fun _ => ⟨((k0 i hi).2 e).2, ir_mk (k + 5) c _ _ _ _ _ _ _ _ _ _ _ _⟩)
  · exact hX _ (br_f z0 (hY _ (br_f z1 ⟨rfl, J⟩)))
theorem gr_R_cat {n : Nat} {E : Nat → Nat → Prop} {i j : Nat} {k : Nat} (h : gr_R n E (fun _ => False) i k j) : ∀ m y, gr_R n E (fun _ => False) j m y → gr_R n E (fun _ => False) i (k + m) y := by
  intro m
  induction m with
  | zero => intro y hy; rw [show y = j from hy]; exact h
  | succ m ih =>
    intro y hy
    rcases hy with q | ⟨a, x, hx, r, b, e⟩
    · exact .inl (ih y q)
    · exact .inr ⟨a, x, hx, ih x r, b, e⟩
theorem bt_one (j : Nat) : (fun s => (2 ^ j).testBit s) = fun s => decide (s = j) := by
  funext s
  rw [Nat.testBit_two_pow]
  simp [eq_comm]
theorem bt_oneP (j : Nat) : (fun y => (2 ^ j).testBit y = true) = fun y => y = j := by
  funext y
  rw [Nat.testBit_two_pow]
  simp [eq_comm]
theorem bt_oneM {n : Nat} {w : Nat → Nat} {j m : Nat} (hm : bm_is n m (fun i => gr_L n (fun x y => 0 < ch_sw w x y) (fun y => y = j) (fun _ => False) (n - 1) i ∧ ¬ i = j)) : bm_is n m (fun i => gr_L n (fun x y => 0 < ch_sw w x y) (fun y => (2 ^ j).testBit y = true) (fun _ => False) (n - 1) i ∧ ¬ (2 ^ j).testBit i = true) := by
  refine bm_iff hm (fun i _ => ?_)
  rw [bt_oneP]
  have : ((2 ^ j).testBit i = true) = (i = j) := congrFun (bt_oneP j) i
  rw [this]
theorem vi_rank {n : Nat} {w : Nat → Nat} (ok : ch_ok n w) {j m : Nat} (hj : j < n) (hm : bm_is n m (fun i => gr_L n (fun x y => 0 < ch_sw w x y) (fun y => y = j) (fun _ => False) (n - 1) i)) (no : ¬ gr_cl n w j) : sv_rank n w (fun s => m.testBit s) := by
  have ex : ∃ z, z < n ∧ gr_R n (fun x y => 0 < ch_sw w x y) (fun _ => False) j (n - 1) z ∧ ¬ gr_L n (fun x y => 0 < ch_sw w x y) (fun y => y = j) (fun _ => False) (n - 1) z := by
    apply Classical.byContradiction
    intro h
    apply no
    intro z hz r
    apply Classical.byContradiction
    intro l
    exact h ⟨z, hz, r, l⟩
  obtain ⟨z, hz, rz, lz⟩ := ex
  refine gr_rank_of ok (G := fun y => !m.testBit y) (B := fun _ => False) (fun s hs => ⟨fun t => ⟨?_, by simp [t]⟩, fun t => by simpa using t.2⟩)
  rw [gr_lead (T := fun _ => False) (q := n - 1 + (n - 1)) (fun _ z => z.elim) (fun _ z => z) hs (by omega)]
  refine ⟨z, hz, ?_, gr_R_cat ((gr_to hj hs (by omega)).mp ((hm.2 s hs).mp t)) _ _ rz⟩
  cases e : m.testBit z
  · rfl
  · exact absurd ((hm.2 z hz).mp e) lz
theorem vi_frac {H Dv F D num den m R S V t : Int} (hm : 0 < m) (e1 : S = num * m) (e2 : V = den * m) (hV : V = t * D) (hR : R = V - S) (e : t * H * Dv = R * F) : H * den * Dv = F * (D * (den - num)) := by
  apply ba_cancel hm
  have a : m * (H * den * Dv) = H * Dv * V := by rw [e2]; grind
  have b : m * (F * (D * (den - num))) = F * D * R := by rw [hR, e1, e2]; grind
  rw [a, b, hV]
  have : H * Dv * (t * D) = D * (t * H * Dv) := by grind
  rw [this, e]; grind
theorem i_vc_visits {k : Nat} {u : SX} {v : SY} (I : i_Rel k u v) (hk : k + 5 ≤ 2561) (v1 : Int32) (v2 : Int32) (v3 : Int32) : wpX_visits (fun r u' => wpY_visits (fun r' v' => r' = r ∧ i_Rel (k + 5) u' v') v v1 v2 v3) u v1 v2 v3 := by
  have J := i_up I
  obtain ⟨n, w, a, su, sy, ov, un, fa, fb, up, dn, op, tp, bt, nt, nb, rfl, rfl, c⟩ := I
  have h5 := c.1.2.1
  unfold wpX_visits
  dsimp only
  rcases rf_pair (n := n) (a := a) (su := su) (sy := sy) (ov := ov) (un := un) (fa := fa) (fb := fb) (up := up) (dn := dn) (op := op) (tp := tp) (bt := bt) (nt := nt) (nb := nb) h5 v1 v2 v3 with ⟨i, j, hi, hj, rfl, rfl, hpart⟩ | ⟨z, z0, z1, hX, hY⟩
  · obtain ⟨r, hr⟩ := bm_exists n (gr_R n (fun x y => 0 < ch_sw w x y) (fun _ => False) i (n - 1))
    refine rf_x (g := 0) h5 hi hj (Nat.two_pow_pos n) hpart (br_t rfl (xm_reached c hi hr (xm_has (bm_lt hr h5) (by omega) (fun tr => ?_) (fun tr => ?_))))
    · refine br_f (by decide) (xm_closed c hj (fun cl => ?_) (fun ncl => ?_))
      · refine br_f (by decide) (xm_partInf (fun q => ?_) (fun q => ?_))
        · unfold wpY_visits
          dsimp only
          refine rf_yp h5 hi hj hpart (br_t (by decide) (ym_reached (cr_XY c) hi hr (ym_in (bm_lt hr h5) (by omega) (fun _ => br_f (by decide) (ym_closed (cr_XY c) hj (fun _ => br_f (by decide) ⟨?_, J⟩) (fun z => absurd cl z))) (fun z => by rw [tr] at z; cases z))))
          rw [q]; rfl
        · unfold wpY_visits
          dsimp only
          refine rf_yp h5 hi hj hpart (br_t (by decide) (ym_reached (cr_XY c) hi hr (ym_in (bm_lt hr h5) (by omega) (fun _ => br_f (by decide) (ym_closed (cr_XY c) hj (fun _ => br_f (by decide) ⟨?_, J⟩) (fun z => absurd cl z))) (fun z => by rw [tr] at z; cases z))))
          rw [pt_of hpart q]; rfl
      · obtain ⟨m, hm⟩ := bm_exists n (fun i => gr_L n (fun x y => 0 < ch_sw w x y) (fun y => y = j) (fun _ => False) (n - 1) i)
        obtain ⟨l, hl⟩ := bm_exists n (fun i => gr_L n (fun x y => 0 < ch_sw w x y) (fun y => y = j) (fun _ => False) (n - 1) i ∧ ¬ i = j)
        have rV := vi_rank c.1 hj hm ncl
        have rU : sv_rank n w (fun s => l.testBit s) := gr_rank_of c.1 (G := fun y => (2 ^ j).testBit y) (B := fun _ => False) (fun s hs => (bt_oneM hl).2 s hs)
        have hU := sv_of c.1 rU
        have hVok := sv_of c.1 rV
        have DU := sv_Db c.1 rU
        have DV := sv_Db c.1 rV
        have mj : m.testBit j = true := (hm.2 j hj).mpr (gr_L_up (Nat.zero_le _) (show gr_L n _ _ _ 0 j from rfl))
        have mi : m.testBit i = true := (hm.2 i hi).mpr ((gr_to hj hi (by omega)).mpr ((hr.2 j hj).mp tr))
        have vis := sv_visit c.1 (U := fun s => l.testBit s) (V := fun s => m.testBit s) hj rU rV (fun s hs => by
          have a1 := hl.2 s hs
          have a2 := hm.2 s hs
          dsimp only at a1 a2 ⊢
          rw [a1, a2]) mj
        dsimp only at vis
        obtain ⟨R0, vis⟩ := vis
        have vi := vis i hi mi
        have F0 := sv_nonneg (U := fun s => m.testBit s) hVok hi mi (v := fun t => if t = j then (ch_tot w j : Int) else 0) (fun t _ _ => by split <;> omega)
        have Fb := sv_Fb (U := fun s => m.testBit s) c.1 hi mi (v := fun t => if t = j then (ch_tot w j : Int) else 0) (fun t _ _ => by
          have := ch_tot_le c.1 (i := j) (by omega)
          split <;> omega)
        obtain ⟨x, y, f⟩ := fp_can (p := sv_F n w (fun s => m.testBit s) i (fun t => if t = j then (ch_tot w j : Int) else 0)) DV.1 (by omega) (by omega)
        refine br_t rfl (xm_visits c hj hm rV (fun sy' hs => ?_))
        have e5 := (hs i hi).2
        rw [if_pos mi] at e5
        have dis : ∀ s, s < n → l.testBit s = true → (fun s => decide (s = j)) s = false := fun s hs t => by
          have := ((hl.2 s hs).mp t).2
          simpa using this
        have Hb : ∀ s, s < n → 0 ≤ sv_H n w (fun s => l.testBit s) (fun s => decide (s = j)) s ∧ sv_H n w (fun s => l.testBit s) (fun s => decide (s = j)) s ≤ sv_D n w (fun s => l.testBit s) := fun s hs => ⟨sv_H_nonneg hU hs, sv_H_le (U := fun s => l.testBit s) c.1 hU dis hs⟩
        have tl := ch_tot_le c.1 (i := j) (by omega)
        have t1 := ch_tot_pos w j
        have V0 : 0 < (ch_tot w j : Int) * sv_D n w (fun s => l.testBit s) := Int.mul_pos (by omega) DU.1
        have Vb : (ch_tot w j : Int) * sv_D n w (fun s => l.testBit s) ≤ 45 * 4100625 := Int.mul_le_mul (by omega) DU.2 (by omega) (by omega)
        have walk : ∀ (post : Int64 → SY → Prop), (∀ fa' fb' up' dn' op' tp' bt', (v3 = 0 → post x (nI n, fa', fb', a, up', dn', op', tp', bt', nt, nb)) ∧ (¬ v3 = 0 → post y (nI n, fa', fb', a, up', dn', op', tp', bt', nt, nb))) → wpY_visits post (nI n, fa, fb, a, up, dn, op, tp, bt, nt, nb) (nI i) (nI j) v3 := by
          intro post hpost
          unfold wpY_visits
          dsimp only
          refine rf_yp h5 hi hj hpart (br_t (by decide) (ym_reached (cr_XY c) hi hr (ym_in (bm_lt hr h5) (by omega) (fun _ => br_f (by decide) (ym_closed (cr_XY c) hj (fun z => absurd z ncl) (fun _ => br_t rfl ?_))) (fun z => by rw [tr] at z; cases z))))
          rw [bm_shl j (by omega)]
          refine ym_chances (b := 0) (cr_XY c) (bm_one hj).1 (bm_zero n) (bt_oneM hl) (fun _ fa' fb' up' dn' op' tp' bt' k0 => ?_)
          rw [bt_one] at k0
          have ei : (nI i).toNatClampNeg = i := nI_clamp (by omega)
          have vpi : vp_in (nI i) 5 := vp_in_nI (by omega) (by decide)
          dsimp only
          rw [ei]
          refine ⟨vpi, nm_e ⟨vpi, nm_e ?_⟩⟩
          refine ym_mean (cr_XY c) hj (P := sv_H n w (fun s => l.testBit s) (fun s => decide (s = j))) (Q := sv_D n w (fun s => l.testBit s)) DU.1 (by omega) (fun s hs => by have := Hb s hs; omega) (fun s hs _ => k0 s hs) (fun x1 y1 f1 => ?_)
          dsimp only
          obtain ⟨rfl, rfl, g3, g4⟩ := f1
          obtain ⟨mm, hmm, e1, e2⟩ := fr_ex (ba_S (fun k => (ch_sw w j k : Int) * sv_H n w (fun s => l.testBit s) (fun s => decide (s = j)) k) n) V0
          have dp := fr_den_pos (ba_S (fun k => (ch_sw w j k : Int) * sv_H n w (fun s => l.testBit s) (fun s => decide (s = j)) k) n) ((ch_tot w j : Int) * sv_D n w (fun s => l.testBit s))
          have dl := (fr_le (ba_S (fun k => (ch_sw w j k : Int) * sv_H n w (fun s => l.testBit s) (fun s => decide (s = j)) k) n) V0).2
          have S0 : 0 ≤ ba_S (fun k => (ch_sw w j k : Int) * sv_H n w (fun s => l.testBit s) (fun s => decide (s = j)) k) n := ba_S_nonneg (fun s hs => Int.mul_nonneg (by omega) (Hb s hs).1)
          generalize hRat : Rat.divInt (ba_S (fun k => (ch_sw w j k : Int) * sv_H n w (fun s => l.testBit s) (fun s => decide (s = j)) k) n) ((ch_tot w j : Int) * sv_D n w (fun s => l.testBit s)) = rr at *
          have n0 : 0 ≤ rr.num := by
            rw [e1] at S0
            exact Int.le_of_mul_le_mul_right (by simpa using S0) hmm
          have lt : 0 < (rr.den : Int) - rr.num := by
            have q : 0 < ((rr.den : Int) - rr.num) * mm := by
              rw [Int.sub_mul, ← e1, ← e2]; exact R0
            exact Int.pos_of_mul_pos_left q hmm
          rw [← Int64.ofInt_sub]
          have Hi := Hb i hi
          have p1 : (sv_H n w (fun s => l.testBit s) (fun s => decide (s = j)) i * (rr.den : Int)).natAbs ≤ 4100625 * 184528125 := ba_nm (by omega) (by omega)
          have p2 : sv_D n w (fun s => l.testBit s) * ((rr.den : Int) - rr.num) ≤ 4100625 * 184528125 := Int.mul_le_mul DU.2 (by omega) (by omega) (by omega)
          refine ym_mulS (k0 i hi) DU.1 lt (by omega) (by omega) (by omega) (by omega) (fun x2 y2 f2 => ?_)
          have key := vi_frac (H := sv_H n w (fun s => l.testBit s) (fun s => decide (s = j)) i) (Dv := sv_D n w (fun s => m.testBit s)) (F := sv_F n w (fun s => m.testBit s) i (fun t => if t = j then (ch_tot w j : Int) else 0)) (D := sv_D n w (fun s => l.testBit s)) hmm e1 e2 rfl rfl vi
          have eq := (fp_uniq (Int.mul_pos DU.1 lt) DV.1 f2 f).mpr key
          rw [eq.1, eq.2]
          dsimp only
          have hh := hpost x y up' dn' op' tp' bt'
          exact br_c hh.1 hh.2
        dsimp only
        refine xm_solved (by omega) e5 (hs i hi).1 F0 DV.1 (by omega) (by omega) f (fun q => ?_) (fun q => ?_)
        · exact walk (fun r' v' => r' = x ∧ i_Rel (k + 5) (nI n, a, su, sy', ov, un) v') (fun _ _ _ _ _ _ _ => ⟨fun _ => ⟨rfl, ir_mk (k + 5) c _ _ _ _ _ _ _ _ _ _ _ _⟩, fun z => absurd q z⟩)
        · exact walk (fun r' v' => r' = y ∧ i_Rel (k + 5) (nI n, a, su, sy', ov, un) v') (fun _ _ _ _ _ _ _ => ⟨fun z => absurd z q, fun _ => ⟨rfl, ir_mk (k + 5) c _ _ _ _ _ _ _ _ _ _ _ _⟩⟩)
    · refine br_t rfl (xm_part (p := 0) (q := 1) (by decide) (by decide) (by decide) (by decide) (fp_int (by decide)) (fun q => ?_) (fun q => ?_))
      · unfold wpY_visits
        dsimp only
        refine rf_yp h5 hi hj hpart (br_t (by decide) (ym_reached (cr_XY c) hi hr (ym_in (bm_lt hr h5) (by omega) (fun z => by rw [tr] at z; cases z) (fun _ => br_t rfl ⟨?_, J⟩))))
        rw [q]; rfl
      · unfold wpY_visits
        dsimp only
        refine rf_yp h5 hi hj hpart (br_t (by decide) (ym_reached (cr_XY c) hi hr (ym_in (bm_lt hr h5) (by omega) (fun z => by rw [tr] at z; cases z) (fun _ => br_t rfl ⟨?_, J⟩))))
        rw [pt_of hpart q]; rfl
  · refine hX _ (br_f z0 ?_)
    unfold wpY_visits
    dsimp only
    exact hY _ (br_f z1 ⟨rfl, J⟩)
end
section
/-! share -/
section
variable {n : Nat} {w : Nat → Nat} {a su : Nat → Int32} {sy ov un : Nat → Int64}
theorem xm_shareL {post : Int64 → SX → Prop} (c : cr_X n w a su) {j : Nat} (hj : j < n) {part : Int32} {x5 x7 x9 : Int64} {T : Nat → Int} {b : Int} (hT : ∀ s, s < n → sy (6 * s + 5) = Int64.ofInt (T s))
    (hp : wpX_partOf (fun r => post r (nI n, a, su, sy, ov, un)) (x5 * x9) (x7 * Int64.ofInt (b + ba_S (fun s => (ch_sw w j s : Int) * T s) n)) part) : ∃ f, wX_share_102 post (nI j) part x5 x7 x9 (nI n) a su sy ov un f (Int64.ofInt b) 0 := by
  have h5 := c.1.2.1
  refine loop_0 (fun f i (s : Int64) => wX_share_102 post (nI j) part x5 x7 x9 (nI n) a su sy ov un f s (nI i)) (fun i s => s = Int64.ofInt (b + ba_S (fun s => (ch_sw w j s : Int) * T s) i)) n (Int64.ofInt b) ?_ ?_ ?_
  · simp [ba_S]
  · rintro f s rfl
    exact br_t (nI_le (Nat.le_refl n) (by omega)) hp
  · rintro f i s hi rfl ih
    have d5 : (nI i * 6 + 5).toNatClampNeg = 6 * i + 5 := by
      rw [show nI i * 6 + 5 = nI (6 * i + 5) from ix_6 i 5]; exact nI_clamp (by omega)
    have v5 : vp_in (nI i * 6 + 5) 30 := by rw [show nI i * 6 + 5 = nI (6 * i + 5) from ix_6 i 5]; exact vp_in_nI (by omega) (by decide)
    have sl := ch_sw_le c.1 (i := j) (j := i) (by omega) (by omega)
    refine br_f (nI_ge hi (by omega)) (xm_sw c (by omega) (by omega) ⟨v5, ?_⟩)
    rw [d5, hT i hi, cv_pos (by omega), ← Int64.ofInt_mul, ← Int64.ofInt_add]
    refine nm_e (nm_r (nI_1 i) (ih _ ?_))
    simp only [ba_S]
    congr 1
    omega
end
theorem sh_frac {H Hc Dc D num den m S V t : Int} (hm : 0 < m) (e1 : S = num * m) (e2 : V = den * m) (hV : V = t * D) (e : H * Dc = Hc * D) : Hc * den * (D * (t * D + S)) = H * (t * D) * (Dc * (den + num)) := by
  have a : t * D + S = (den + num) * m := by rw [← hV, e1, e2]; grind
  rw [a, ← hV, e2]
  have l : Hc * den * (D * ((den + num) * m)) = (Hc * D) * (den * ((den + num) * m)) := by grind
  rw [l, ← e]; grind
theorem i_vc_share {k : Nat} {u : SX} {v : SY} (I : i_Rel k u v) (hk : k + 5 ≤ 2561) (v1 : Int32) (v2 : Int32) (v3 : Int32) : wpX_share (fun r u' => wpY_share (fun r' v' => r' = r ∧ i_Rel (k + 5) u' v') v v1 v2 v3) u v1 v2 v3 := by
  have J := i_up I
  obtain ⟨n, w, a, su, sy, ov, un, fa, fb, up, dn, op, tp, bt, nt, nb, rfl, rfl, c⟩ := I
  have h5 := c.1.2.1
  unfold wpX_share
  dsimp only
  rcases rf_pair (n := n) (a := a) (su := su) (sy := sy) (ov := ov) (un := un) (fa := fa) (fb := fb) (up := up) (dn := dn) (op := op) (tp := tp) (bt := bt) (nt := nt) (nb := nb) h5 v1 v2 v3 with ⟨i, j, hi, hj, rfl, rfl, hpart⟩ | ⟨z, z0, z1, hX, hY⟩
  · refine rf_x (g := 0) h5 hi hj (Nat.two_pow_pos n) hpart (br_t rfl (xm_closed c hj (fun cl => ?_) (fun ncl => ?_)))
    · obtain ⟨m, hm⟩ := bm_exists n (fun i => gr_L n (fun x y => 0 < ch_sw w x y) (fun y => y = j) (fun _ => False) (n - 1) i ∧ ¬ i = j)
      have hm2 := bt_oneM hm
      have ei : (nI i).toNatClampNeg = i := nI_clamp (by omega)
      have d5 : (nI i * 6 + 5).toNatClampNeg = 6 * i + 5 := by
        rw [show nI i * 6 + 5 = nI (6 * i + 5) from ix_6 i 5]; exact nI_clamp (by omega)
      have v5 : vp_in (nI i * 6 + 5) 30 := by rw [show nI i * 6 + 5 = nI (6 * i + 5) from ix_6 i 5]; exact vp_in_nI (by omega) (by decide)
      have di : (nI i * 6 + nI i).toNatClampNeg = 6 * i + i := by rw [ix_6]; exact nI_clamp (by omega)
      have vi : vp_in (nI i * 6 + nI i) 30 := by rw [ix_6]; exact vp_in_nI (by omega) (by decide)
      have dj : (nI j * 6 + nI j).toNatClampNeg = 6 * j + j := by rw [ix_6]; exact nI_clamp (by omega)
      have vj : vp_in (nI j * 6 + nI j) 30 := by rw [ix_6]; exact vp_in_nI (by omega) (by decide)
      refine br_f (by decide) ?_
      rw [bm_shl j (by omega)]
      refine xm_chances (b := 0) c (bm_one hj).1 (bm_zero n) hm2 (fun r sy1 hs1 => ?_)
      rw [bt_one] at hs1
      have hok := sv_of c.1 r
      have Db := sv_Db c.1 r
      have uj : (fun s => m.testBit s) j = false := by
        show m.testBit j = false
        cases e : m.testBit j
        · rfl
        · exact absurd rfl ((hm.2 j hj).mp e).2
      have dis : ∀ s, s < n → (fun s => m.testBit s) s = true → (fun s => decide (s = j)) s = false := fun s hs t => by
        have := ((hm.2 s hs).mp t).2
        simpa using this
      have Hb : ∀ s, s < n → 0 ≤ sv_H n w (fun s => m.testBit s) (fun s => decide (s = j)) s ∧ sv_H n w (fun s => m.testBit s) (fun s => decide (s = j)) s ≤ sv_D n w (fun s => m.testBit s) := fun s hs => ⟨sv_H_nonneg hok hs, sv_H_le c.1 hok dis hs⟩
      dsimp only
      rw [d5, di, (hs1 i hi).1, (hs1 i hi).2]
      refine ⟨v5, nm_e ⟨vi, nm_e (xm_times c (bm_one hj).1 hm2 (fun _ sy2 hs2 => ?_))⟩⟩
      dsimp only
      refine xm_tot c (by omega) ⟨vj, ?_⟩
      have tl := ch_tot_le c.1 (i := j) (by omega)
      have t1 := ch_tot_pos w j
      rw [dj, (hs2 j hj).1, cv_pos (by omega), ← Int64.ofInt_mul]
      refine nm_e (xm_shareL c hj (T := fun s => if m.testBit s = true then sv_F n w (fun s => m.testBit s) s (fun t => (ch_tot w t : Int)) else 0) (fun s hs => (hs2 s hs).2) ?_)
      rw [← Int64.ofInt_mul, ← Int64.ofInt_mul]
      have Tb : ∀ s, s < n → 0 ≤ (if m.testBit s = true then sv_F n w (fun s => m.testBit s) s (fun t => (ch_tot w t : Int)) else 0) ∧ (if m.testBit s = true then sv_F n w (fun s => m.testBit s) s (fun t => (ch_tot w t : Int)) else 0) ≤ 98415000 := by
        intro s hs
        split
        · rename_i mi
          have a1 := sv_nonneg (U := fun s => m.testBit s) (v := fun t => (ch_tot w t : Int)) hok hs mi (fun t _ _ => by omega)
          have a2 := sv_Fb (U := fun s => m.testBit s) (v := fun t => (ch_tot w t : Int)) c.1 hs mi (fun t ht _ => by
            have := ch_tot_le c.1 (i := t) (by omega)
            omega)
          omega
        · omega
      have S0 : 0 ≤ ba_S (fun s => (ch_sw w j s : Int) * (if m.testBit s = true then sv_F n w (fun s => m.testBit s) s (fun t => (ch_tot w t : Int)) else 0)) n := ba_S_nonneg (fun s hs => Int.mul_nonneg (by omega) (Tb s hs).1)
      have Sb : ba_S (fun s => (ch_sw w j s : Int) * (if m.testBit s = true then sv_F n w (fun s => m.testBit s) s (fun t => (ch_tot w t : Int)) else 0)) n ≤ 98415000 * (ch_tot w j : Int) := by
        rw [← ch_sum c.1 hj, ← ba_S_mul]
        apply ba_S_le
        intro s hs
        have := Int.mul_le_mul_of_nonneg_left (Tb s hs).2 (show (0 : Int) ≤ (ch_sw w j s : Int) by omega)
        rw [Int.mul_comm (98415000 : Int)]
        exact this
      have V0 : 0 < (ch_tot w j : Int) * sv_D n w (fun s => m.testBit s) := Int.mul_pos (by omega) Db.1
      have Vb : (ch_tot w j : Int) * sv_D n w (fun s => m.testBit s) ≤ 45 * 4100625 := Int.mul_le_mul (by omega) Db.2 (by omega) (by omega)
      have Hi := Hb i hi
      have P0 : 0 ≤ sv_H n w (fun s => m.testBit s) (fun s => decide (s = j)) i * ((ch_tot w j : Int) * sv_D n w (fun s => m.testBit s)) := Int.mul_nonneg Hi.1 (by omega)
      have Pb : sv_H n w (fun s => m.testBit s) (fun s => decide (s = j)) i * ((ch_tot w j : Int) * sv_D n w (fun s => m.testBit s)) ≤ 4100625 * (45 * 4100625) := Int.mul_le_mul (by omega) Vb (by omega) (by omega)
      have Q0 : 0 < sv_D n w (fun s => m.testBit s) * ((ch_tot w j : Int) * sv_D n w (fun s => m.testBit s) + ba_S (fun s => (ch_sw w j s : Int) * (if m.testBit s = true then sv_F n w (fun s => m.testBit s) s (fun t => (ch_tot w t : Int)) else 0)) n) := Int.mul_pos Db.1 (by omega)
      have Qb : sv_D n w (fun s => m.testBit s) * ((ch_tot w j : Int) * sv_D n w (fun s => m.testBit s) + ba_S (fun s => (ch_sw w j s : Int) * (if m.testBit s = true then sv_F n w (fun s => m.testBit s) s (fun t => (ch_tot w t : Int)) else 0)) n) ≤ 4100625 * 10000000000 := Int.mul_le_mul Db.2 (by omega) (by omega) (by omega)
      obtain ⟨x, y, f⟩ := fp_can (p := sv_H n w (fun s => m.testBit s) (fun s => decide (s = j)) i * ((ch_tot w j : Int) * sv_D n w (fun s => m.testBit s))) Q0 (by omega) (by omega)
      have walk : ∀ (post : Int64 → SY → Prop), (∀ fa' fb' up' dn' op' tp' bt', (v3 = 0 → post x (nI n, fa', fb', a, up', dn', op', tp', bt', nt, nb)) ∧ (¬ v3 = 0 → post y (nI n, fa', fb', a, up', dn', op', tp', bt', nt, nb))) → wpY_share post (nI n, fa, fb, a, up, dn, op, tp, bt, nt, nb) (nI i) (nI j) v3 := by
        intro post hpost
        unfold wpY_share
        dsimp only
        obtain ⟨rr, hr⟩ := bm_exists n (gr_R n (fun x y => 0 < ch_sw w x y) (fun _ => False) i (n - 1))
        refine rf_yp h5 hi hj hpart (br_t (by decide) (ym_closed (cr_XY c) hj (fun _ => br_f (by decide) (ym_reached (cr_XY c) hi hr (ym_in (bm_lt hr h5) (by omega) (fun tr => br_f (by decide) ?_) (fun tr => br_t rfl ?_)))) (fun z => absurd cl z)))
        · obtain ⟨q, hq⟩ := bm_exists n (fun s => gr_R n (fun x y => 0 < ch_sw w x y) (fun _ => False) j (n - 1) s ∧ gr_R n (fun x y => 0 < ch_sw w x y) (fun _ => False) s (n - 1) j)
          obtain ⟨p, hp⟩ := bm_exists n (fun i => gr_L n (fun x y => 0 < ch_sw w x y) (fun y => q.testBit y = true) (fun _ => False) (n - 1) i ∧ ¬ q.testBit i = true)
          have qj : q.testBit j = true := (hq.2 j hj).mpr ⟨gr_R_up (Nat.zero_le _) (show gr_R n _ _ j 0 j from rfl), gr_R_up (Nat.zero_le _) (show gr_R n _ _ j 0 j from rfl)⟩
          have hC : ∀ s, s < n → (fun s => q.testBit s) s = true → s ≠ j → (fun s => m.testBit s) s = true := fun s hs t ne => (hm.2 s hs).mpr ⟨(gr_to hj hs (by omega)).mpr ((hq.2 s hs).mp t).2, ne⟩
          have hcl : ∀ s c', s < n → c' < n → (fun s => q.testBit s) s = true → 0 < ch_sw w s c' → (fun s => q.testBit s) c' = true := by
            intro s c' hs hc t e
            have r1 := ((hq.2 s hs).mp t).1
            have r2 : gr_R n (fun x y => 0 < ch_sw w x y) (fun _ => False) j (n - 1) c' := gr_R_stab hj (n - 1 + 1) c' (.inr ⟨hc, s, hs, r1, fun z => z, e⟩)
            exact (hq.2 c' hc).mpr ⟨r2, (gr_to hj hc (by omega)).mp (cl c' hc r2)⟩
          have hV : ∀ s, (fun s => p.testBit s) s = true ↔ ((fun s => m.testBit s) s = true ∧ (fun s => q.testBit s) s = false) := by
            intro s
            show p.testBit s = true ↔ (m.testBit s = true ∧ q.testBit s = false)
            by_cases sn : s < n
            · have a1 : p.testBit s = true ↔ _ := hp.2 s sn
              have a2 : m.testBit s = true ↔ _ := hm.2 s sn
              rw [a1, a2]
              constructor
              · rintro ⟨l, nq⟩
                obtain ⟨y, hy, gy, r⟩ := (gr_lead (T := fun _ => False) (q := n - 1) (fun _ z => z.elim) (fun _ z => z) sn (by omega)).mp l
                have ry := ((hq.2 y hy).mp gy).2
                refine ⟨⟨(gr_to hj sn (by omega)).mpr (gr_R_cat r _ _ ry), fun e => nq (by rw [e]; exact qj)⟩, by simpa using nq⟩
              · rintro ⟨⟨l, _⟩, nq⟩
                refine ⟨(gr_lead (T := fun _ => False) (q := n - 1) (fun _ z => z.elim) (fun _ z => z) sn (by omega)).mpr ⟨j, hj, qj, (gr_to hj sn (by omega)).mp l⟩, by rw [nq]; decide⟩
            · rw [bm_hi hp.1 (by omega), bm_hi hm.1 (by omega)]
              constructor
              · intro z; cases z
              · rintro ⟨z, _⟩; cases z
          rw [bm_shl j (by omega)]
          refine ym_times (cr_XY c) (bm_one hj).1 hm2 (fun _ fa1 fb1 up1 dn1 op1 tp1 bt1 k1 => ?_)
          rw [bt_one] at k1
          dsimp only
          refine ym_mean (cr_XY c) hj (P := fun s => if m.testBit s = true then sv_F n w (fun s => m.testBit s) s (fun t => (ch_tot w t : Int)) else 0) (Q := sv_D n w (fun s => m.testBit s)) Db.1 (by omega) (fun s hs => by have := Tb s hs; omega) (fun s hs sw0 => (k1 s hs).1 (sv_in_class c.1 (U := fun s => m.testBit s) (C := fun s => q.testBit s) hj r uj hC hcl hs (hcl j s hj hs qj sw0))) (fun x1 y1 f1 => ?_)
          dsimp only
          obtain ⟨rfl, rfl, g3, g4⟩ := f1
          obtain ⟨mm, hmm, e1, e2⟩ := fr_ex (ba_S (fun s => (ch_sw w j s : Int) * (if m.testBit s = true then sv_F n w (fun s => m.testBit s) s (fun t => (ch_tot w t : Int)) else 0)) n) V0
          have dp := fr_den_pos (ba_S (fun s => (ch_sw w j s : Int) * (if m.testBit s = true then sv_F n w (fun s => m.testBit s) s (fun t => (ch_tot w t : Int)) else 0)) n) ((ch_tot w j : Int) * sv_D n w (fun s => m.testBit s))
          have dl := fr_le (ba_S (fun s => (ch_sw w j s : Int) * (if m.testBit s = true then sv_F n w (fun s => m.testBit s) s (fun t => (ch_tot w t : Int)) else 0)) n) V0
          generalize hRat : Rat.divInt (ba_S (fun s => (ch_sw w j s : Int) * (if m.testBit s = true then sv_F n w (fun s => m.testBit s) s (fun t => (ch_tot w t : Int)) else 0)) n) ((ch_tot w j : Int) * sv_D n w (fun s => m.testBit s)) = ra at *
          have n0 : 0 ≤ ra.num := by
            have S0' := S0
            rw [e1] at S0'
            exact Int.le_of_mul_le_mul_right (by simpa using S0') hmm
          rw [← Int64.ofInt_add]
          refine nm_e (ym_class (cr_XY c) hj hq (ym_chances (b := 0) (cr_XY c) hq.1 (bm_zero n) hp (fun r2 fa2 fb2 up2 dn2 op2 tp2 bt2 k2 => ?_)))
          have Db2 := sv_Db c.1 r2
          have hok2 := sv_of c.1 r2
          have dis2 : ∀ s, s < n → (fun s => p.testBit s) s = true → (fun s => q.testBit s) s = false := fun s _ t => ((hV s).mp t).2
          have H2 := sv_H_nonneg (U := fun s => p.testBit s) (G := fun s => q.testBit s) hok2 hi
          have H3 := sv_H_le (U := fun s => p.testBit s) (G := fun s => q.testBit s) c.1 hok2 dis2 hi
          have share := sv_share c.1 (U := fun s => m.testBit s) (C := fun s => q.testBit s) (V := fun s => p.testBit s) hj r uj qj hC hcl hV hi
          have vpi : vp_in (nI i) 5 := vp_in_nI (by omega) (by decide)
          dsimp only
          rw [ei]
          refine ⟨vpi, vpi, ?_⟩
          have lt : 0 < ra.num + (ra.den : Int) := by omega
          have p1 : (sv_H n w (fun s => p.testBit s) (fun s => q.testBit s) i * (ra.den : Int)).natAbs ≤ 4100625 * 184528125 := ba_nm (by omega) (by omega)
          have p2 : sv_D n w (fun s => p.testBit s) * (ra.num + (ra.den : Int)) ≤ 4100625 * 10000000000 := Int.mul_le_mul Db2.2 (by omega) (by omega) (by omega)
          refine ym_mulS (k2 i hi) Db2.1 lt (by omega) (by omega) (by omega) (by omega) (fun x2 y2 f2 => ?_)
          have key := sh_frac (H := sv_H n w (fun s => m.testBit s) (fun s => decide (s = j)) i) (Hc := sv_H n w (fun s => p.testBit s) (fun s => q.testBit s) i) (Dc := sv_D n w (fun s => p.testBit s)) (D := sv_D n w (fun s => m.testBit s)) (t := (ch_tot w j : Int)) hmm e1 e2 rfl share
          rw [Int.add_comm (ra.den : Int)] at key
          have eq := (fp_uniq (Int.mul_pos Db2.1 lt) Q0 f2 f).mpr key
          rw [eq.1, eq.2]
          dsimp only
          have hh := hpost x y up2 dn2 op2 tp2 bt2
          exact br_c hh.1 hh.2
        · have nj : ¬ gr_R n (fun x y => 0 < ch_sw w x y) (fun _ => False) i (n - 1) j := fun z => by rw [(hr.2 j hj).mpr z] at tr; cases tr
          have ij : i ≠ j := fun e => nj (by rw [e]; exact gr_R_up (Nat.zero_le _) (show gr_R n _ _ j 0 j from rfl))
          have ui : m.testBit i = false := by
            cases e : m.testBit i
            · rfl
            · exact absurd ((gr_to hj hi (by omega)).mp ((hm.2 i hi).mp e).1) nj
          have H00 : sv_H n w (fun s => m.testBit s) (fun s => decide (s = j)) i = 0 := sv_H_0 (U := fun s => m.testBit s) (G := fun s => decide (s = j)) ui (by simpa using ij)
          have eq := (fp_uniq Q0 (by decide) f (fp_int (t := 0) (by decide))).mpr (by rw [H00]; simp)
          have hh := hpost fa fb up dn op tp bt
          rcases hpart with e | e
          · have := hh.1 e
            rw [eq.1] at this
            rw [e]; exact this
          · have := hh.2 (by rw [e]; decide)
            rw [eq.2] at this
            rw [e]; exact this
      refine xm_part P0 Q0 (by omega) (by omega) f (fun q => ?_) (fun q => ?_)
      · exact walk (fun r' v' => r' = x ∧ i_Rel (k + 5) (nI n, a, su, sy2, ov, un) v') (fun _ _ _ _ _ _ _ => ⟨fun _ => ⟨rfl, ir_mk (k + 5) c _ _ _ _ _ _ _ _ _ _ _ _⟩, fun z => absurd q z⟩)
      · exact walk (fun r' v' => r' = y ∧ i_Rel (k + 5) (nI n, a, su, sy2, ov, un) v') (fun _ _ _ _ _ _ _ => ⟨fun z => absurd z q, fun _ => ⟨rfl, ir_mk (k + 5) c _ _ _ _ _ _ _ _ _ _ _ _⟩⟩)
    · refine br_t rfl (xm_part (p := 0) (q := 1) (by decide) (by decide) (by decide) (by decide) (fp_int (by decide)) (fun q => ?_) (fun q => ?_))
      · unfold wpY_share
        dsimp only
        refine rf_yp h5 hi hj hpart (br_t (by decide) (ym_closed (cr_XY c) hj (fun z => absurd z ncl) (fun _ => br_t rfl ⟨?_, J⟩)))
        rw [q]; rfl
      · unfold wpY_share
        dsimp only
        refine rf_yp h5 hi hj hpart (br_t (by decide) (ym_closed (cr_XY c) hj (fun z => absurd z ncl) (fun _ => br_t rfl ⟨?_, J⟩)))
        rw [pt_of hpart q]; rfl
  · refine hX _ (br_f z0 ?_)
    unfold wpY_share
    dsimp only
    exact hY _ (br_f z1 ⟨rfl, J⟩)
end
section
/-! set and swap -/
def st_w (w : Nat → Nat) (k b : Nat) : Nat → Nat := fun x => if x = k then b else w x
theorem st_W {w : Nat → Nat} {i j b : Nat} (hj : j < 5) : ch_W (st_w w (5 * i + j) b) i + w (5 * i + j) = ch_W w i + b := by
  unfold ch_W st_w
  rcases (by omega : j = 0 ∨ j = 1 ∨ j = 2 ∨ j = 3 ∨ j = 4) with rfl | rfl | rfl | rfl | rfl <;> simp <;> omega
theorem st_Wo {w : Nat → Nat} {i j b r : Nat} (hj : j < 5) (ne : r ≠ i) : ch_W (st_w w (5 * i + j) b) r = ch_W w r := by
  unfold ch_W st_w
  rw [if_neg (by omega), if_neg (by omega), if_neg (by omega), if_neg (by omega), if_neg (by omega)]
theorem st_ok {n : Nat} {w : Nat → Nat} (ok : ch_ok n w) {i j b : Nat} (hi : i < n) (hj : j < n) (hb : b ≤ 9) : ch_ok n (st_w w (5 * i + j) b) := by
  obtain ⟨h1, h5, h9, hz⟩ := ok
  refine ⟨h1, h5, fun k hk => ?_, fun r c hr hc out => ?_⟩
  · unfold st_w
    split
    · exact hb
    · exact h9 k hk
  · unfold st_w
    rw [if_neg (by omega)]
    exact hz r c hr hc out
theorem st_alg (x y z t : Int32) (h : x + y = t + z) : x + (y - z) = t := by grind
theorem st_cr {n : Nat} {w : Nat → Nat} {a su : Nat → Int32} (c : cr_X n w a su) {i j b : Nat} (hi : i < n) (hj : j < n) (hb : b ≤ 9) :
    cr_X n (st_w w (5 * i + j) b) (upd a (5 * i + j) (nI b)) (upd su i (nI (ch_W w i) + (nI b - nI (w (5 * i + j))))) := by
  have h5 := c.1.2.1
  refine ⟨st_ok c.1 hi hj hb, fun k hk => ?_, fun r hr => ?_⟩
  · by_cases e : k = 5 * i + j
    · rw [e, pk_us]; unfold st_w; rw [if_pos rfl]
    · rw [pk_un e]; unfold st_w; rw [if_neg e]; exact c.2.1 k hk
  · by_cases e : r = i
    · subst e
      rw [pk_us]
      apply st_alg
      rw [nI_add, nI_add, st_W (by omega)]
    · rw [pk_un e, st_Wo (by omega) e]; exact c.2.2 r hr
theorem i_vc_set {k : Nat} {u : SX} {v : SY} (I : i_Rel k u v) (hk : k + 5 ≤ 2561) (v1 : Int32) (v2 : Int32) (v3 : Int32) : wpX_set (fun r u' => wpY_set (fun r' v' => r' = r ∧ i_Rel (k + 5) u' v') v v1 v2 v3) u v1 v2 v3 := by
  have J := i_up I
  obtain ⟨n, w, a, su, sy, ov, un, fa, fb, up, dn, op, tp, bt, nt, nb, rfl, rfl, c⟩ := I
  have h5 := c.1.2.1
  unfold wpX_set wpY_set
  dsimp only
  by_cases h1 : ∃ i, i < n ∧ v1 = nI i
  · obtain ⟨i, hi, rfl⟩ := h1
    by_cases h2 : ∃ j, j < n ∧ v2 = nI j
    · obtain ⟨j, hj, rfl⟩ := h2
      refine xm_st1 h5 hi (br_f (by decide) (xm_st1 h5 hj (br_f (by decide) ?_)))
      by_cases n3 : v3 < 0
      · exact br_t n3 (ym_st1 h5 hi (br_f (by decide) (ym_st1 h5 hj (br_f (by decide) (br_t n3 ⟨rfl, J⟩)))))
      · by_cases l9 : v3 ≤ 9
        · obtain ⟨b, hb, rfl⟩ := nI_of2 (M := 9) (n := 9) (by decide) n3 l9
          have e5 : nI i * 5 + nI j = nI (5 * i + j) := ix_5 i j
          have e5' : 5 * nI i + nI j = nI (5 * i + j) := ix_5' i j
          have ex : (nI (5 * i + j)).toNatClampNeg = 5 * i + j := nI_clamp (by omega)
          have ei : (nI i).toNatClampNeg = i := nI_clamp (by omega)
          have vx : vp_in (nI (5 * i + j)) 25 := vp_in_nI (by omega) (by decide)
          have vi : vp_in (nI i) 5 := vp_in_nI (by omega) (by decide)
          refine br_f n3 (br_t l9 (nm_r e5 ⟨vx, nm_e ⟨vx, nm_e ⟨vi, vi, nm_e ?_⟩⟩⟩))
          refine ym_st1 h5 hi (br_f (by decide) (ym_st1 h5 hj (br_f (by decide) (br_f n3 (br_t l9 ?_)))))
          rw [e5', ex, ei]
          refine ⟨vx, nm_e ⟨vx, nm_e ⟨rfl, ?_⟩⟩⟩
          rw [c.2.2 i (by omega), c.2.1 (5 * i + j) (by omega)]
          exact ir_mk (k + 5) (st_cr c hi hj hb) _ _ _ _ _ _ _ _ _ _ _ _
        · exact br_f n3 (br_f l9 (ym_st1 h5 hi (br_f (by decide) (ym_st1 h5 hj (br_f (by decide) (br_f n3 (br_f l9 ⟨rfl, J⟩)))))))
    · exact xm_st1 h5 hi (br_f (by decide) (xm_st0 h5 h2 (br_t rfl (ym_st1 h5 hi (br_f (by decide) (ym_st0 h5 h2 (br_t rfl ⟨rfl, J⟩)))))))
  · exact xm_st0 h5 h1 (br_t rfl (ym_st0 h5 h1 (br_t rfl ⟨rfl, J⟩)))
/-! swap -/
def sp_s (i j r : Nat) : Nat := if r = i then j else if r = j then i else r
def sp_ex (a : Nat → Int32) (p q : Nat) : Nat → Int32 := upd (upd a p (a q)) q (a p)
def sp_r (a : Nat → Int32) (i j : Nat) : Nat → Nat → Int32
  | 0 => a
  | k + 1 => sp_ex (sp_r a i j k) (5 * i + k) (5 * j + k)
def sp_c (a : Nat → Int32) (i j : Nat) : Nat → Nat → Int32
  | 0 => a
  | k + 1 => sp_ex (sp_c a i j k) (5 * k + i) (5 * k + j)
theorem sp_exv (a : Nat → Int32) (p q x : Nat) : sp_ex a p q x = if x = q then a p else if x = p then a q else a x := by
  unfold sp_ex
  by_cases e : x = q
  · rw [e, pk_us, if_pos rfl]
  · rw [pk_un e, if_neg e]
    by_cases e2 : x = p
    · rw [e2, pk_us, if_pos rfl]
    · rw [pk_un e2, if_neg e2]
theorem sp_slt {n i j r : Nat} (hi : i < n) (hj : j < n) (hr : r < n) : sp_s i j r < n := by
  unfold sp_s
  split
  · exact hj
  · split
    · exact hi
    · exact hr
theorem sp_sge {n i j r : Nat} (hi : i < n) (hj : j < n) (hr : n ≤ r) : sp_s i j r = r := by
  unfold sp_s
  rw [if_neg (by omega), if_neg (by omega)]
theorem sp_rv (a : Nat → Int32) {i j : Nat} (hi : i < 5) (hj : j < 5) : ∀ k, k ≤ 5 → (∀ r c, r < 5 → c < 5 → sp_r a i j k (5 * r + c) = if c < k then a (5 * sp_s i j r + c) else a (5 * r + c)) ∧ ∀ x, 25 ≤ x → sp_r a i j k x = a x := by
  intro k
  induction k with
  | zero => intro _; exact ⟨fun r c _ _ => by rw [if_neg (by omega)]; rfl, fun x _ => rfl⟩
  | succ k ih =>
    intro hk
    obtain ⟨h1, h2⟩ := ih (by omega)
    refine ⟨fun r c hr hc => ?_, fun x hx => ?_⟩
    · show sp_ex (sp_r a i j k) (5 * i + k) (5 * j + k) (5 * r + c) = _
      have hik : sp_r a i j k (5 * i + k) = a (5 * i + k) := (h1 i k hi (by omega)).trans (if_neg (Nat.lt_irrefl k))
      have hjk : sp_r a i j k (5 * j + k) = a (5 * j + k) := (h1 j k hj (by omega)).trans (if_neg (Nat.lt_irrefl k))
      rw [sp_exv, hik, hjk, h1 r c hr hc]
      by_cases e1 : 5 * r + c = 5 * j + k
      · have rj : r = j := by omega
        have ck : c = k := by omega
        subst rj ck
        rw [if_pos rfl, if_pos (by omega)]
        unfold sp_s
        by_cases q : r = i
        · rw [if_pos q, q]
        · rw [if_neg q, if_pos rfl]
      · rw [if_neg e1]
        by_cases e2 : 5 * r + c = 5 * i + k
        · have ri : r = i := by omega
          have ck : c = k := by omega
          subst ri ck
          rw [if_pos rfl, if_pos (by omega)]
          unfold sp_s
          rw [if_pos rfl]
        · rw [if_neg e2]
          by_cases q : c < k
          · rw [if_pos q, if_pos (by omega)]
          · rw [if_neg q]
            by_cases q2 : c = k
            · rw [if_pos (by omega)]
              have s : sp_s i j r = r := by unfold sp_s; rw [if_neg (by omega), if_neg (by omega)]
              rw [s]
            · rw [if_neg (by omega)]
    · show sp_ex (sp_r a i j k) (5 * i + k) (5 * j + k) x = _
      rw [sp_exv, if_neg (by omega), if_neg (by omega)]; exact h2 x hx
theorem sp_cv (a : Nat → Int32) {i j : Nat} (hi : i < 5) (hj : j < 5) : ∀ k, k ≤ 5 → (∀ r c, r < 5 → c < 5 → sp_c a i j k (5 * r + c) = if r < k then a (5 * r + sp_s i j c) else a (5 * r + c)) ∧ ∀ x, 25 ≤ x → sp_c a i j k x = a x := by
  intro k
  induction k with
  | zero => intro _; exact ⟨fun r c _ _ => by rw [if_neg (by omega)]; rfl, fun x _ => rfl⟩
  | succ k ih =>
    intro hk
    obtain ⟨h1, h2⟩ := ih (by omega)
    refine ⟨fun r c hr hc => ?_, fun x hx => ?_⟩
    · show sp_ex (sp_c a i j k) (5 * k + i) (5 * k + j) (5 * r + c) = _
      have hik : sp_c a i j k (5 * k + i) = a (5 * k + i) := (h1 k i (by omega) hi).trans (if_neg (Nat.lt_irrefl k))
      have hjk : sp_c a i j k (5 * k + j) = a (5 * k + j) := (h1 k j (by omega) hj).trans (if_neg (Nat.lt_irrefl k))
      rw [sp_exv, hik, hjk, h1 r c hr hc]
      by_cases e1 : 5 * r + c = 5 * k + j
      · have rk : r = k := by omega
        have cj : c = j := by omega
        subst rk cj
        rw [if_pos rfl, if_pos (by omega)]
        unfold sp_s
        by_cases q : c = i
        · rw [if_pos q, q]
        · rw [if_neg q, if_pos rfl]
      · rw [if_neg e1]
        by_cases e2 : 5 * r + c = 5 * k + i
        · have rk : r = k := by omega
          have ci : c = i := by omega
          subst rk ci
          rw [if_pos rfl, if_pos (by omega)]
          unfold sp_s
          rw [if_pos rfl]
        · rw [if_neg e2]
          by_cases q : r < k
          · rw [if_pos q, if_pos (by omega)]
          · rw [if_neg q]
            by_cases q2 : r = k
            · rw [if_pos (by omega)]
              have s : sp_s i j c = c := by unfold sp_s; rw [if_neg (by omega), if_neg (by omega)]
              rw [s]
            · rw [if_neg (by omega)]
    · show sp_ex (sp_c a i j k) (5 * k + i) (5 * k + j) x = _
      rw [sp_exv, if_neg (by omega), if_neg (by omega)]; exact h2 x hx
theorem sp_all {n : Nat} {w : Nat → Nat} {a : Nat → Int32} (c : cr_Y n w a) {i j : Nat} (hi : i < n) (hj : j < n) {k : Nat} (h1 : n ≤ k) (h2 : k ≤ 5) : (∀ r s, r < 5 → s < 5 → sp_c (sp_r a i j k) i j k (5 * r + s) = a (5 * sp_s i j r + sp_s i j s)) ∧ ∀ x, 25 ≤ x → sp_c (sp_r a i j k) i j k x = a x := by
  have h5 := c.1.2.1
  have R := sp_rv a (i := i) (j := j) (by omega) (by omega) k h2
  have C := sp_cv (sp_r a i j k) (i := i) (j := j) (by omega) (by omega) k h2
  have z : ∀ r s, r < 5 → s < 5 → (n ≤ r ∨ n ≤ s) → a (5 * r + s) = nI 0 := fun r s hr hs o => by rw [c.2 _ (by omega), c.1.2.2.2 r s hr hs o]
  have lt5 : ∀ r, r < 5 → sp_s i j r < 5 := fun r hr => sp_slt (by omega) (by omega) hr
  refine ⟨fun r s hr hs => ?_, fun x hx => by rw [C.2 x hx, R.2 x hx]⟩
  rw [C.1 r s hr hs]
  by_cases q : r < k
  · rw [if_pos q, R.1 r _ hr (lt5 s hs)]
    by_cases q2 : sp_s i j s < k
    · rw [if_pos q2]
    · rw [if_neg q2, z r _ hr (lt5 s hs) (.inr (by omega)), z _ _ (lt5 r hr) (lt5 s hs) (.inr (by omega))]
  · have er : sp_s i j r = r := sp_sge hi hj (by omega)
    rw [if_neg q, R.1 r s hr hs, er, z r _ hr (lt5 s hs) (.inl (by omega))]
    split
    · exact z r s hr hs (.inl (by omega))
    · exact z r s hr hs (.inl (by omega))
theorem sp_perm (f : Nat → Nat) {i j : Nat} (hi : i < 5) (hj : j < 5) : f (sp_s i j 0) + f (sp_s i j 1) + f (sp_s i j 2) + f (sp_s i j 3) + f (sp_s i j 4) = f 0 + f 1 + f 2 + f 3 + f 4 := by
  rcases (by omega : i = 0 ∨ i = 1 ∨ i = 2 ∨ i = 3 ∨ i = 4) with rfl | rfl | rfl | rfl | rfl <;> rcases (by omega : j = 0 ∨ j = 1 ∨ j = 2 ∨ j = 3 ∨ j = 4) with rfl | rfl | rfl | rfl | rfl <;> simp [sp_s] <;> omega
def sp_w (w : Nat → Nat) (i j x : Nat) : Nat := w (5 * sp_s i j (x / 5) + sp_s i j (x % 5))
theorem sp_wv (w : Nat → Nat) (i j r s : Nat) (hs : s < 5) : sp_w w i j (5 * r + s) = w (5 * sp_s i j r + sp_s i j s) := by
  unfold sp_w
  rw [show (5 * r + s) / 5 = r by omega, show (5 * r + s) % 5 = s by omega]
theorem sp_cr {n : Nat} {w : Nat → Nat} {a su : Nat → Int32} (c : cr_X n w a su) {i j : Nat} (hi : i < n) (hj : j < n) {a2 : Nat → Int32} (h : ∀ r s, r < 5 → s < 5 → a2 (5 * r + s) = a (5 * sp_s i j r + sp_s i j s)) :
    cr_X n (sp_w w i j) a2 (upd (upd su i (su j)) j (su i)) := by
  obtain ⟨⟨h1, h5, h9, hz⟩, ha, hsu⟩ := c
  have lt5 : ∀ r, r < 5 → sp_s i j r < 5 := fun r hr => sp_slt (by omega) (by omega) hr
  refine ⟨⟨h1, h5, fun k hk => ?_, fun r s hr hs o => ?_⟩, fun k hk => ?_, fun r hr => ?_⟩
  · unfold sp_w
    have := lt5 (k / 5) (by omega)
    have := lt5 (k % 5) (by omega)
    exact h9 _ (by omega)
  · rw [sp_wv w i j r s hs]
    refine hz _ _ (lt5 r hr) (lt5 s hs) ?_
    rcases o with o | o
    · rw [sp_sge hi hj o]; exact .inl o
    · rw [sp_sge hi hj o]; exact .inr o
  · have e : k = 5 * (k / 5) + k % 5 := by omega
    rw [e, h _ _ (by omega) (by omega), sp_wv w i j _ _ (by omega)]
    have := lt5 (k / 5) (by omega)
    have := lt5 (k % 5) (by omega)
    exact ha _ (by omega)
  · have e : ch_W (sp_w w i j) r = ch_W w (sp_s i j r) := by
      unfold ch_W
      rw [show 5 * r = 5 * r + 0 from rfl, sp_wv w i j r 0 (by decide), show 5 * r + 0 + 1 = 5 * r + 1 from rfl, show 5 * r + 0 + 2 = 5 * r + 2 from rfl, show 5 * r + 0 + 3 = 5 * r + 3 from rfl, show 5 * r + 0 + 4 = 5 * r + 4 from rfl, sp_wv w i j r 1 (by decide), sp_wv w i j r 2 (by decide), sp_wv w i j r 3 (by decide), sp_wv w i j r 4 (by decide)]
      exact sp_perm (fun s => w (5 * sp_s i j r + s)) (by omega) (by omega)
    rw [e]
    by_cases q : r = j
    · rw [q, pk_us]
      have : sp_s i j j = i := by
        unfold sp_s
        by_cases z : j = i
        · rw [if_pos z, z]
        · rw [if_neg z, if_pos rfl]
      rw [this]; exact hsu i (by omega)
    · rw [pk_un q]
      by_cases q2 : r = i
      · rw [q2, pk_us]
        have : sp_s i j i = j := by unfold sp_s; rw [if_pos rfl]
        rw [this]; exact hsu j (by omega)
      · rw [pk_un q2]
        have : sp_s i j r = r := by unfold sp_s; rw [if_neg q2, if_neg q]
        rw [this]; exact hsu r hr
section
variable {n : Nat} {w : Nat → Nat} {a su : Nat → Int32} {sy ov un : Nat → Int64} {fa fb : Int64} {up dn : Nat → Int64} {op : Nat → Int32} {tp bt nt nb : Nat → Int64}
theorem xm_exch {post : SX → Prop} {st : Int32} {p q : Int32} {k l : Nat} (hp : p = nI k) (hq : q = nI l) (hk : k < 25) (hl : l < 25) (h : post (st, sp_ex a k l, su, sy, ov, un)) : wpX_exchangeWeights post (st, a, su, sy, ov, un) p q := by
  subst hp hq
  have e1 : (nI k).toNatClampNeg = k := nI_clamp (by omega)
  have e2 : (nI l).toNatClampNeg = l := nI_clamp (by omega)
  have v1 : vp_in (nI k) 25 := vp_in_nI hk (by decide)
  have v2 : vp_in (nI l) 25 := vp_in_nI hl (by decide)
  unfold wpX_exchangeWeights
  dsimp only
  rw [e1, e2]
  exact ⟨v1, nm_e ⟨v2, v1, nm_e ⟨v2, nm_e h⟩⟩⟩
theorem ym_exchW {post : SY → Prop} {st : Int32} {p q : Int32} {k l : Nat} (hp : p = nI k) (hq : q = nI l) (hk : k < 25) (hl : l < 25) (h : post (st, fa, fb, sp_ex a k l, up, dn, op, tp, bt, nt, nb)) : wpY_exchange post (st, fa, fb, a, up, dn, op, tp, bt, nt, nb) p q := by
  subst hp hq
  have e1 : (nI k).toNatClampNeg = k := nI_clamp (by omega)
  have e2 : (nI l).toNatClampNeg = l := nI_clamp (by omega)
  have v1 : vp_in (nI k) 25 := vp_in_nI hk (by decide)
  have v2 : vp_in (nI l) 25 := vp_in_nI hl (by decide)
  unfold wpY_exchange
  dsimp only
  rw [e1, e2]
  exact ⟨v1, nm_e ⟨v2, v1, nm_e ⟨v2, nm_e h⟩⟩⟩
theorem xm_swapL {post : Int32 → SX → Prop} (h5 : n ≤ 5) {i j : Nat} (hi : i < n) (hj : j < n) (h : post 1 (nI n, sp_c (sp_r a i j n) i j n, upd (upd su i (su j)) j (su i), sy, ov, un)) : ∃ f, wX_swap_20 post (nI i) (nI j) f 0 (nI n) a su sy ov un := by
  have e1 : (nI i).toNatClampNeg = i := nI_clamp (by omega)
  have e2 : (nI j).toNatClampNeg = j := nI_clamp (by omega)
  have v1 : vp_in (nI i) 5 := vp_in_nI (by omega) (by decide)
  have v2 : vp_in (nI j) 5 := vp_in_nI (by omega) (by decide)
  refine loop_0 (fun f k (s : Nat → Int32) => wX_swap_20 post (nI i) (nI j) f (nI k) (nI n) s su sy ov un) (fun k s => s = sp_r a i j k) n a rfl ?_ ?_
  · rintro f s rfl
    refine br_t (nI_le (Nat.le_refl n) (by omega)) ?_
    refine loop_0 (fun f k (s : Nat → Int32) => wX_swap_50 post (nI i) (nI j) f (nI k) (nI n) s su sy ov un) (fun k s => s = sp_c (sp_r a i j n) i j k) n (sp_r a i j n) rfl ?_ ?_
    · rintro f s rfl
      refine br_t (nI_le (Nat.le_refl n) (by omega)) ?_
      rw [e1, e2]
      exact ⟨v1, nm_e ⟨v2, v1, nm_e ⟨v2, nm_e h⟩⟩⟩
    · rintro f k s hk rfl ih
      refine br_f (nI_ge hk (by omega)) (xm_exch (ix_5 k i) (ix_5 k j) (by omega) (by omega) ?_)
      dsimp only
      exact nm_r (nI_1 k) (ih _ rfl)
  · rintro f k s hk rfl ih
    refine br_f (nI_ge hk (by omega)) (xm_exch (ix_5 i k) (ix_5 j k) (by omega) (by omega) ?_)
    dsimp only
    exact nm_r (nI_1 k) (ih _ rfl)
theorem ym_swapL {post : Int32 → SY → Prop} (h5 : n ≤ 5) {i j : Nat} (hi : i < n) (hj : j < n) (h : post 1 (nI n, fa, fb, if i = j then a else sp_c (sp_r a i j 5) i j 5, up, dn, op, tp, bt, nt, nb)) : ∃ f, wY_swap_20 post (nI i) (nI j) f 0 (nI n) fa fb a up dn op tp bt nt nb := by
  by_cases e : i = j
  · rw [if_pos e] at h
    have e' : nI i = nI j := by rw [e]
    exact ⟨1, br_f (by decide) (br_t e' ⟨1, br_f (by decide) (br_t e' h)⟩)⟩
  · rw [if_neg e] at h
    have e' : ¬ nI i = nI j := fun z => e ((nI_eq (by omega) (by omega)).mp z)
    refine loop_0 (fun f k (s : Nat → Int32) => wY_swap_20 post (nI i) (nI j) f (nI k) (nI n) fa fb s up dn op tp bt nt nb) (fun k s => s = sp_r a i j k) 5 a rfl ?_ ?_
    · rintro f s rfl
      refine br_t (by decide) ?_
      refine loop_0 (fun f k (s : Nat → Int32) => wY_swap_52 post (nI i) (nI j) f (nI k) (nI n) fa fb s up dn op tp bt nt nb) (fun k s => s = sp_c (sp_r a i j 5) i j k) 5 (sp_r a i j 5) rfl ?_ ?_
      · rintro f s rfl
        exact br_t (by decide) h
      · rintro f k s hk rfl ih
        refine br_f (nI_ge (b := 5) hk (by decide)) (br_f e' (ym_exchW (ix_5' k i) (ix_5' k j) (by omega) (by omega) ?_))
        dsimp only
        exact nm_r (nI_1 k) (ih _ rfl)
    · rintro f k s hk rfl ih
      refine br_f (nI_ge (b := 5) hk (by decide)) (br_f e' (ym_exchW (ix_5' i k) (ix_5' j k) (by omega) (by omega) ?_))
      dsimp only
      exact nm_r (nI_1 k) (ih _ rfl)
end
theorem i_vc_swap {k : Nat} {u : SX} {v : SY} (I : i_Rel k u v) (hk : k + 5 ≤ 2561) (v1 : Int32) (v2 : Int32) : wpX_swap (fun r u' => wpY_swap (fun r' v' => r' = r ∧ i_Rel (k + 5) u' v') v v1 v2) u v1 v2 := by
  have J := i_up I
  obtain ⟨n, w, a, su, sy, ov, un, fa, fb, up, dn, op, tp, bt, nt, nb, rfl, rfl, c⟩ := I
  have h5 := c.1.2.1
  unfold wpX_swap wpY_swap
  dsimp only
  by_cases h1 : ∃ i, i < n ∧ v1 = nI i
  · obtain ⟨i, hi, rfl⟩ := h1
    by_cases h2 : ∃ j, j < n ∧ v2 = nI j
    · obtain ⟨j, hj, rfl⟩ := h2
      have A := sp_all (cr_XY c) hi hj (k := n) (Nat.le_refl n) h5
      have B := sp_all (cr_XY c) hi hj (k := 5) h5 (Nat.le_refl 5)
      have same : (if i = j then a else sp_c (sp_r a i j 5) i j 5) = sp_c (sp_r a i j n) i j n := by
        funext x
        rcases Nat.lt_or_ge x 25 with q | q
        · have e : x = 5 * (x / 5) + x % 5 := by omega
          rw [e, A.1 _ _ (by omega) (by omega)]
          split
          · rename_i z
            have id : ∀ r, sp_s i j r = r := by
              intro r
              unfold sp_s
              split
              · omega
              · split <;> omega
            rw [id, id]
          · exact B.1 _ _ (by omega) (by omega)
        · rw [A.2 x q]
          split
          · rfl
          · exact B.2 x q
      refine xm_st1 h5 hi (br_f (by decide) (xm_st1 h5 hj (br_f (by decide) (xm_swapL h5 hi hj ?_))))
      refine ym_st1 h5 hi (br_f (by decide) (ym_st1 h5 hj (br_f (by decide) (ym_swapL h5 hi hj ⟨rfl, ?_⟩))))
      rw [same]
      exact ir_mk (k + 5) (sp_cr c hi hj A.1) _ _ _ _ _ _ _ _ _ _ _ _
    · exact xm_st1 h5 hi (br_f (by decide) (xm_st0 h5 h2 (br_t rfl (ym_st1 h5 hi (br_f (by decide) (ym_st0 h5 h2 (br_t rfl ⟨rfl, J⟩)))))))
  · exact xm_st0 h5 h1 (br_t rfl (ym_st0 h5 h1 (br_t rfl ⟨rfl, J⟩)))
end
section
/-! after -/
def af_p (w : Nat → Nat) : Nat → Nat
  | 0 => 1
  | m + 1 => af_p w m * ch_tot w m
def af_c (w : Nat → Nat) (k : Nat) : Nat → Nat
  | 0 => 1
  | m + 1 => if m = k then af_c w k m else af_c w k m * ch_tot w m
theorem af_ge (w : Nat → Nat) (k : Nat) : ∀ m, m ≤ k → af_c w k m = af_p w m := by
  intro m
  induction m with
  | zero => intro _; rfl
  | succ m ih =>
    intro h
    unfold af_c af_p
    rw [if_neg (by omega), ih (by omega)]
theorem af_cp (w : Nat → Nat) (k : Nat) : ∀ m, k < m → af_c w k m * ch_tot w k = af_p w m := by
  intro m
  induction m with
  | zero => intro h; omega
  | succ m ih =>
    intro h
    unfold af_c af_p
    by_cases e : m = k
    · rw [if_pos e, af_ge w k m (by omega), e]
    · rw [if_neg e, ← ih (by omega)]
      exact Nat.mul_right_comm _ _ _
theorem af_pos (w : Nat → Nat) : ∀ m, 1 ≤ af_p w m := by
  intro m
  induction m with
  | zero => exact Nat.le_refl 1
  | succ m ih => unfold af_p; exact Nat.mul_pos ih (ch_tot_pos w m)
theorem af_le {n : Nat} {w : Nat → Nat} (ok : ch_ok n w) : ∀ m, m ≤ 5 → af_p w m ≤ 45 ^ m := by
  intro m
  induction m with
  | zero => intro _; exact Nat.le_refl 1
  | succ m ih =>
    intro h
    unfold af_p
    rw [Nat.pow_succ]
    exact Nat.mul_le_mul (ih (by omega)) (ch_tot_le ok (by omega))
theorem af_n {n : Nat} {w : Nat → Nat} (ok : ch_ok n w) : af_p w n ≤ 184528125 := by
  have h5 := ok.2.1
  refine Nat.le_trans (af_le ok n h5) ?_
  exact Nat.pow_le_pow_right (n := 45) (i := n) (j := 5) (by decide) h5
def af_T (w : Nat → Nat) (i j m : Nat) : Int := ba_S (fun k => (ch_sw w i k : Int) * ((ch_sw w k j : Int) * (af_c w k m : Int))) m
theorem af_Ts (w : Nat → Nat) (i j m : Nat) : af_T w i j (m + 1) = af_T w i j m * (ch_tot w m : Int) + ((ch_sw w i m * ch_sw w m j : Nat) : Int) * (af_p w m : Int) := by
  unfold af_T
  simp only [ba_S]
  have e1 : ba_S (fun k => (ch_sw w i k : Int) * ((ch_sw w k j : Int) * (af_c w k (m + 1) : Int))) m = ba_S (fun k => (ch_tot w m : Int) * ((ch_sw w i k : Int) * ((ch_sw w k j : Int) * (af_c w k m : Int)))) m := by
    apply ba_S_congr
    intro k hk
    have : af_c w k (m + 1) = af_c w k m * ch_tot w m := by
      show (if m = k then af_c w k m else af_c w k m * ch_tot w m) = _
      rw [if_neg (by omega)]
    rw [this, Int.natCast_mul]; grind
  have e2 : af_c w m (m + 1) = af_p w m := by
    show (if m = m then af_c w m m else af_c w m m * ch_tot w m) = _
    rw [if_pos rfl, af_ge w m m (Nat.le_refl m)]
  rw [e1, ba_S_mul, e2, Int.natCast_mul]; grind
theorem af_Tb {n : Nat} {w : Nat → Nat} (ok : ch_ok n w) {i j : Nat} (hi : i < n) (hj : j < n) : 0 ≤ af_T w i j n ∧ af_T w i j n ≤ 184528125 * (ch_tot w i : Int) ∧ ∀ k, k < n → 0 ≤ (ch_sw w k j : Int) * (af_c w k n : Int) ∧ (ch_sw w k j : Int) * (af_c w k n : Int) ≤ 184528125 := by
  have p := af_n ok
  have B : ∀ k, k < n → 0 ≤ (ch_sw w k j : Int) * (af_c w k n : Int) ∧ (ch_sw w k j : Int) * (af_c w k n : Int) ≤ 184528125 := by
    intro k hk
    have a := af_cp w k n hk
    have s := ch_sw_le_tot ok hk hj
    have m : ch_sw w k j * af_c w k n ≤ ch_tot w k * af_c w k n := Nat.mul_le_mul s (Nat.le_refl _)
    rw [Nat.mul_comm (ch_tot w k), a] at m
    rw [← Int.natCast_mul]
    omega
  refine ⟨ba_S_nonneg (fun k hk => Int.mul_nonneg (by omega) (B k hk).1), ?_, B⟩
  unfold af_T
  rw [← ch_sum ok hi, ← ba_S_mul]
  apply ba_S_le
  intro k hk
  rw [Int.mul_comm (184528125 : Int)]
  exact Int.mul_le_mul_of_nonneg_left (B k hk).2 (by omega)
section
variable {n : Nat} {w : Nat → Nat} {a su : Nat → Int32} {sy ov un : Nat → Int64} {fa fb : Int64} {up dn : Nat → Int64} {op : Nat → Int32} {tp bt nt nb : Nat → Int64}
theorem xm_afterOne {post : Int64 → Prop} (c : cr_X n w a su) {i j : Nat} (hi : i < n) (hj : j < n) {x y : Int64} (f : fp_is x y (ch_sw w i j : Int) (ch_tot w i : Int)) {part : Int32} (h0 : part = 0 → post x) (h1 : ¬ part = 0 → post y) : wpX_afterOne post (nI n, a, su, sy, ov, un) (nI i) (nI j) part := by
  have h5 := c.1.2.1
  have sl := ch_sw_le c.1 (i := i) (j := j) (by omega) (by omega)
  have tl := ch_tot_le c.1 (i := i) (by omega)
  have t1 := ch_tot_pos w i
  unfold wpX_afterOne
  dsimp only
  refine xm_sw c (by omega) (by omega) (xm_tot c (by omega) ?_)
  rw [cv_pos (by omega), cv_pos (by omega)]
  exact xm_part (by omega) (by omega) (by omega) (by omega) f h0 h1
theorem xm_afterTwo {post : Int64 → Prop} (c : cr_X n w a su) {i j : Nat} (hi : i < n) (hj : j < n) {x y : Int64} (f : fp_is x y (af_T w i j n) ((ch_tot w i : Int) * (af_p w n : Int))) {part : Int32} (h0 : part = 0 → post x) (h1 : ¬ part = 0 → post y) : wpX_afterTwo post (nI n, a, su, sy, ov, un) (nI i) (nI j) part := by
  have h5 := c.1.2.1
  have tl := ch_tot_le c.1 (i := i) (by omega)
  have t1 := ch_tot_pos w i
  have pn := af_n c.1
  have p1 := af_pos w n
  have Tb := af_Tb c.1 hi hj
  unfold wpX_afterTwo
  dsimp only
  refine xm_tot c (by omega) ?_
  rw [cv_pos (by omega)]
  refine loop_0 (fun f m (s : Int64 × Int64) => wX_afterTwo_17 post (nI i) (nI j) part (Int64.ofInt (ch_tot w i : Int)) (nI n) a su sy ov un f s.1 s.2 (nI m)) (fun m s => s.1 = Int64.ofInt (af_T w i j m) ∧ s.2 = Int64.ofInt (af_p w m : Int)) n (0, 1) ⟨rfl, rfl⟩ ?_ ?_
  · rintro g ⟨s1, s2⟩ ⟨e1, e2⟩
    dsimp only at e1 e2
    subst e1 e2
    refine br_t (nI_le (Nat.le_refl n) (by omega)) ?_
    dsimp only
    rw [← Int64.ofInt_mul]
    have q : (ch_tot w i : Int) * (af_p w n : Int) ≤ 45 * 184528125 := Int.mul_le_mul (by omega) (by omega) (by omega) (by omega)
    exact xm_part Tb.1 (Int.mul_pos (by omega) (by omega)) (by omega) (by omega) f h0 h1
  · rintro g m ⟨s1, s2⟩ hm ⟨e1, e2⟩ ih
    dsimp only at e1 e2
    subst e1 e2
    have tm := ch_tot_le c.1 (i := m) (by omega)
    have s1 := ch_sw_le c.1 (i := i) (j := m) (by omega) (by omega)
    have s2 := ch_sw_le c.1 (i := m) (j := j) (by omega) (by omega)
    have ms : ch_sw w i m * ch_sw w m j ≤ 9 * 9 := Nat.mul_le_mul s1 s2
    refine br_f (nI_ge hm (by omega)) (xm_tot c (by omega) (xm_sw c (by omega) (by omega) (xm_sw c (by omega) (by omega) ?_)))
    dsimp only
    rw [cv_pos (by omega), pk_mul, cv_pos (by omega), ← Int64.ofInt_mul, ← Int64.ofInt_mul, ← Int64.ofInt_mul, ← Int64.ofInt_add]
    refine nm_e (nm_e (nm_r (nI_1 m) (ih (_, _) ⟨?_, ?_⟩)))
    · dsimp only
      rw [af_Ts]
      rfl
    · show Int64.ofInt ((af_p w m : Int) * (ch_tot w m : Int)) = Int64.ofInt ((af_p w m * ch_tot w m : Nat) : Int)
      rw [Int.natCast_mul]
theorem ym_astep {post : Int64 → SY → Prop} (c : cr_Y n w a) {P : Nat → Int} {Q : Int} (hQ : 0 < Q) (bQ : Q ≤ 1000000000) (bP : ∀ k, k < n → (P k).natAbs ≤ 1000000000) (h : ∀ k, k < n → fp_is (tp k) (bt k) (P k) Q) {x : Nat} {x1 x3 x4 : Int32}
    {J : Int32 → Int32 → Int64 → Int64 → (Nat → Int32) → (Nat → Int64) → (Nat → Int64) → (Nat → Int32) → (Nat → Int64) → (Nat → Int64) → (Nat → Int64) → (Nat → Int64) → Prop}
    (hJ : ∀ fa' fb' tp' bt' nt' nb', (∀ s, s < n → fp_is (tp' s) (bt' s) (ba_S (fun k => (ch_sw w s k : Int) * P k) n) ((ch_tot w s : Int) * Q)) → J (nI (x + 1)) (nI n) fa' fb' a up dn op tp' bt' nt' nb') :
    ∃ f, wY_after_85 post J x1 x3 x4 (nI x) f 0 (nI n) fa fb a up dn op tp bt nt nb := by
  have h5 := c.1.2.1
  refine loop_0 (fun f s (q : Int64 × Int64 × (Nat → Int64) × (Nat → Int64)) => wY_after_85 post J x1 x3 x4 (nI x) f (nI s) (nI n) q.1 q.2.1 a up dn op tp bt q.2.2.1 q.2.2.2)
    (fun s q => ∀ r, r < s → fp_is (q.2.2.1 r) (q.2.2.2 r) (ba_S (fun k => (ch_sw w r k : Int) * P k) n) ((ch_tot w r : Int) * Q)) n (fa, fb, nt, nb) ?_ ?_ ?_
  · intro r hr; omega
  · rintro f ⟨fa, fb, nt, nb⟩ g
    dsimp only at g
    refine br_t (nI_le (Nat.le_refl n) (by omega)) ?_
    dsimp only
    refine loop_0 (fun f s (q : (Nat → Int64) × (Nat → Int64)) => wY_after_131 post J x1 x3 x4 (nI x) (nI n) fa fb f (nI s) a up dn op q.1 q.2 nt nb)
      (fun s q => ∀ r, r < s → fp_is (q.1 r) (q.2 r) (ba_S (fun k => (ch_sw w r k : Int) * P k) n) ((ch_tot w r : Int) * Q)) n (tp, bt) ?_ ?_ ?_
    · intro r hr; omega
    · rintro f ⟨tp, bt⟩ g2
      exact br_t (nI_le (Nat.le_refl n) (by omega)) (nm_r (nI_1 x) (hJ fa fb tp bt nt nb g2))
    · rintro f s ⟨tp, bt⟩ hs g2 ih
      dsimp only at g2
      have es : (nI s).toNatClampNeg = s := nI_clamp (by omega)
      have vs : vp_in (nI s) 5 := vp_in_nI (by omega) (by decide)
      refine br_f (nI_ge hs (by omega)) ⟨vs, vs, nm_e ⟨vs, vs, nm_e (nm_r (nI_1 s) (ih (vp_updL tp (nI s).toNatClampNeg (nt (nI s).toNatClampNeg), vp_updL bt (nI s).toNatClampNeg (nb (nI s).toNatClampNeg)) ?_))⟩⟩
      intro r hr
      dsimp only
      rw [es]
      by_cases e : r = s
      · rw [e, pk_uLs, pk_uLs]; exact g s hs
      · rw [pk_uLn e, pk_uLn e]; exact g2 r (by omega)
  · rintro f s ⟨fa, fb, nt, nb⟩ hs g ih
    dsimp only at g
    have es : (nI s).toNatClampNeg = s := nI_clamp (by omega)
    have vs : vp_in (nI s) 5 := vp_in_nI (by omega) (by decide)
    refine br_f (nI_ge hs (by omega)) ?_
    dsimp only
    refine ym_mean c hs hQ bQ bP (fun k hk _ => h k hk) (fun x y fx => ?_)
    dsimp only
    rw [es]
    refine ⟨vs, nm_e ⟨vs, nm_e (nm_r (nI_1 s) (ih (x, y, vp_updL nt s x, vp_updL nb s y) ?_))⟩⟩
    intro r hr
    dsimp only
    by_cases e : r = s
    · rw [e, pk_uLs, pk_uLs]; exact fx
    · rw [pk_uLn e, pk_uLn e]; exact g r (by omega)
theorem ym_after0 {post : Int64 → SY → Prop} {st : Int32} {x1 x3 x4 : Int32} {j : Nat} (hj : j < 5)
    (hp : ∀ tp' bt', (∀ s, s < 5 → tp' s = Int64.ofInt (if s = j then 1 else 0) ∧ bt' s = Int64.ofInt 1) → ∃ f, wY_after_76 post x1 x3 x4 f 0 st fa fb a up dn op tp' bt' nt nb) : ∃ f, wY_after_35 post x1 (nI j) x3 x4 st fa fb f 0 a up dn op tp bt nt nb := by
  refine loop_0 (fun f s (q : (Nat → Int64) × (Nat → Int64)) => wY_after_35 post x1 (nI j) x3 x4 st fa fb f (nI s) a up dn op q.1 q.2 nt nb)
    (fun s q => ∀ r, r < s → q.1 r = Int64.ofInt (if r = j then 1 else 0) ∧ q.2 r = Int64.ofInt 1) 5 (tp, bt) ?_ ?_ ?_
  · intro r hr; omega
  · rintro f ⟨tp, bt⟩ g
    exact br_t (by decide) (hp tp bt g)
  · rintro f s ⟨tp, bt⟩ hs g ih
    dsimp only at g
    have es : (nI s).toNatClampNeg = s := nI_clamp (by omega)
    have vs : vp_in (nI s) 5 := vp_in_nI hs (by decide)
    have s58 : ∀ z0 : Int64, z0 = Int64.ofInt (if s = j then 1 else 0) → wY_after_58 post (wY_after_35 post x1 (nI j) x3 x4 st fa fb f) x1 (nI j) x3 x4 (nI s) z0 (nI s) st fa fb a up dn op tp bt nt nb := by
      intro z0 hz
      refine ⟨vs, nm_e ⟨vs, nm_e (nm_r (nI_1 s) (ih (vp_updL tp (nI s).toNatClampNeg z0, vp_updL bt (nI s).toNatClampNeg 1) ?_))⟩⟩
      intro r hr
      dsimp only
      rw [es]
      by_cases e : r = s
      · rw [e, pk_uLs, pk_uLs]; exact ⟨hz, rfl⟩
      · rw [pk_uLn e, pk_uLn e]; exact g r (by omega)
    refine br_f (nI_ge (b := 5) hs (by decide)) ?_
    by_cases e : s = j
    · exact br_t (by rw [e]) (s58 1 (by rw [if_pos e]; rfl))
    · exact br_f (fun q => e ((nI_eq (by omega) (by omega)).mp q)) (s58 0 (by rw [if_neg e]; rfl))
end
theorem i_vc_after {k : Nat} {u : SX} {v : SY} (I : i_Rel k u v) (hk : k + 5 ≤ 2561) (v1 : Int32) (v2 : Int32) (v3 : Int32) (v4 : Int32) : wpX_after (fun r => wpY_after (fun r' v' => r' = r ∧ i_Rel (k + 5) u v') v v1 v2 v3 v4) u v1 v2 v3 v4 := by
  have J := i_up I
  obtain ⟨n, w, a, su, sy, ov, un, fa, fb, up, dn, op, tp, bt, nt, nb, rfl, rfl, c⟩ := I
  have h5 := c.1.2.1
  unfold wpX_after
  dsimp only
  rcases rf_pair (n := n) (a := a) (su := su) (sy := sy) (ov := ov) (un := un) (fa := fa) (fb := fb) (up := up) (dn := dn) (op := op) (tp := tp) (bt := bt) (nt := nt) (nb := nb) h5 v1 v2 v4 with ⟨i, j, hi, hj, rfl, rfl, hpart⟩ | ⟨z, z0, z1, hX, hY⟩
  · refine rf_x (g := 0) h5 hi hj (Nat.two_pow_pos n) hpart (br_t rfl ?_)
    by_cases n3 : v3 < 0
    · refine br_t n3 ?_
      unfold wpY_after
      dsimp only
      exact rf_yp h5 hi hj hpart (br_t (by decide) (br_t n3 ⟨rfl, J⟩))
    · by_cases l2 : v3 ≤ 2
      · obtain ⟨b, hb, rfl⟩ := nI_of2 (M := 2) (n := 2) (by decide) n3 l2
        have tl := ch_tot_le c.1 (i := i) (by omega)
        have t1 := ch_tot_pos w i
        have sl := ch_sw_le c.1 (i := i) (j := j) (by omega) (by omega)
        -- what the reference tells, for any fraction that the tops and bottoms hold in the end
        have walk : ∀ {x y : Int64} (post : Int64 → SY → Prop), (∀ tp' bt', (∀ s, s < 5 → tp' s = Int64.ofInt (if s = j then 1 else 0) ∧ bt' s = Int64.ofInt 1) → ∃ f, wY_after_76 post (nI i) (nI b) v4 f 0 (nI n) fa fb a up dn op tp' bt' nt nb) → wpY_after post (nI n, fa, fb, a, up, dn, op, tp, bt, nt, nb) (nI i) (nI j) (nI b) v4 := by
          intro x y post h
          unfold wpY_after
          dsimp only
          exact rf_yp h5 hi hj hpart (br_t (by decide) (br_f n3 (br_t l2 (ym_after0 (by omega) h))))
        have tell : ∀ {x y : Int64} {r : Int64} {tp' bt' nt' nb' : Nat → Int64} {fa' fb' : Int64} {f : Nat}, tp' i = x → bt' i = y → (v4 = 0 → x = r) → (¬ v4 = 0 → y = r) → wY_after_76 (fun r' v' => r' = r ∧ i_Rel (k + 5) (nI n, a, su, sy, ov, un) v') (nI i) (nI b) v4 (f + 1) (nI b) (nI n) fa' fb' a up dn op tp' bt' nt' nb' := by
          intro x y r tp' bt' nt' nb' fa' fb' f e1 e2 h0 h1
          refine br_t (nI_le (Nat.le_refl b) (by omega)) (ym_told (by omega) (fun q => ?_) (fun q => ?_))
          · exact ⟨by rw [e1, h0 q], ir_mk (k + 5) c _ _ _ _ _ _ _ _ _ _ _ _⟩
          · exact ⟨by rw [e2, h1 q], ir_mk (k + 5) c _ _ _ _ _ _ _ _ _ _ _ _⟩
        refine br_f n3 (br_t l2 ?_)
        rcases (by omega : b = 0 ∨ b = 1 ∨ b = 2) with rfl | rfl | rfl
        · refine br_t rfl ?_
          have fin : ∀ t : Int, (t = if i = j then 1 else 0) → wX_after_47 (fun r => wpY_after (fun r' v' => r' = r ∧ i_Rel (k + 5) (nI n, a, su, sy, ov, un) v') (nI n, fa, fb, a, up, dn, op, tp, bt, nt, nb) (nI i) (nI j) (nI 0) v4) v4 (Int64.ofInt t) (nI n) a su sy ov un := by
            intro t ht
            have tb : t = 0 ∨ t = 1 := by rw [ht]; split <;> omega
            have f := fp_int (t := t) (by omega)
            refine xm_part (q := 1) (by omega) (by decide) (by omega) (by decide) f (fun q => ?_) (fun q => ?_)
            · refine walk (x := 0) (y := 0) _ (fun tp' bt' g => ⟨1, tell (g i (by omega)).1 (g i (by omega)).2 (fun _ => by rw [ht]) (fun z => absurd q z)⟩)
            · refine walk (x := 0) (y := 0) _ (fun tp' bt' g => ⟨1, tell (g i (by omega)).1 (g i (by omega)).2 (fun z => absurd z q) (fun _ => rfl)⟩)
          by_cases e : i = j
          · exact br_t (by rw [e]) (fin 1 (by rw [if_pos e]))
          · exact br_f (fun q => e ((nI_eq (by omega) (by omega)).mp q)) (fin 0 (by rw [if_neg e]))
        · refine br_f (by decide) (br_t rfl ?_)
          obtain ⟨x, y, f⟩ := fp_can (p := (ch_sw w i j : Int)) (q := (ch_tot w i : Int)) (by omega) (by omega) (by omega)
          have step : ∀ {r : Int64} {tp' bt' : Nat → Int64}, (v4 = 0 → x = r) → (¬ v4 = 0 → y = r) → (∀ s, s < 5 → tp' s = Int64.ofInt (if s = j then 1 else 0) ∧ bt' s = Int64.ofInt 1) → ∃ f, wY_after_76 (fun r' v' => r' = r ∧ i_Rel (k + 5) (nI n, a, su, sy, ov, un) v') (nI i) (nI 1) v4 f 0 (nI n) fa fb a up dn op tp' bt' nt nb := by
            intro r tp' bt' h0 h1 g
            refine ⟨2, br_f (by decide) ?_⟩
            refine ym_astep (x := 0) (cr_XY c) (P := fun s => if s = j then 1 else 0) (Q := 1) (by decide) (by decide) (fun s _ => by split <;> decide) (fun s hs => ?_) (fun fa' fb' tp2 bt2 nt2 nb2 g2 => ?_)
            · rw [(g s (by omega)).1, (g s (by omega)).2]
              exact fp_int (by split <;> decide)
            · have e : ba_S (fun s => (ch_sw w i s : Int) * (if s = j then 1 else 0)) n = (ch_sw w i j : Int) := by
                rw [ba_S_one hj (fun s _ hs => by simp [hs])]; simp
              have q := g2 i hi
              rw [e, Int.mul_one] at q
              have eq := (fp_uniq (by omega) (by omega) q f).mpr rfl
              exact tell eq.1 eq.2 h0 h1
          refine xm_afterOne c hi hj f (fun q => ?_) (fun q => ?_)
          · exact walk (x := x) (y := y) _ (fun tp' bt' g => step (fun _ => rfl) (fun z => absurd q z) g)
          · exact walk (x := x) (y := y) _ (fun tp' bt' g => step (fun z => absurd z q) (fun _ => rfl) g)
        · refine br_f (by decide) (br_f (by decide) ?_)
          have pn := af_n c.1
          have p1 := af_pos w n
          have Tb := af_Tb c.1 hi hj
          have V0 : 0 < (ch_tot w i : Int) * (af_p w n : Int) := Int.mul_pos (by omega) (by omega)
          have q : (ch_tot w i : Int) * (af_p w n : Int) ≤ 45 * 184528125 := Int.mul_le_mul (by omega) (by omega) (by omega) (by omega)
          obtain ⟨x, y, f⟩ := fp_can (p := af_T w i j n) V0 (by omega) (by omega)
          have step : ∀ {r : Int64} {tp' bt' : Nat → Int64}, (v4 = 0 → x = r) → (¬ v4 = 0 → y = r) → (∀ s, s < 5 → tp' s = Int64.ofInt (if s = j then 1 else 0) ∧ bt' s = Int64.ofInt 1) → ∃ f, wY_after_76 (fun r' v' => r' = r ∧ i_Rel (k + 5) (nI n, a, su, sy, ov, un) v') (nI i) (nI 2) v4 f 0 (nI n) fa fb a up dn op tp' bt' nt nb := by
            intro r tp' bt' h0 h1 g
            refine ⟨3, br_f (by decide) ?_⟩
            refine ym_astep (x := 0) (cr_XY c) (P := fun s => if s = j then 1 else 0) (Q := 1) (by decide) (by decide) (fun s _ => by split <;> decide) (fun s hs => ?_) (fun fa' fb' tp2 bt2 nt2 nb2 g2 => ?_)
            · rw [(g s (by omega)).1, (g s (by omega)).2]
              exact fp_int (by split <;> decide)
            · refine br_f (by decide) ?_
              refine ym_astep (x := 1) (cr_XY c) (P := fun s => (ch_sw w s j : Int) * (af_c w s n : Int)) (Q := (af_p w n : Int)) (by omega) (by omega) (fun s hs => by have := Tb.2.2 s hs; omega) (fun s hs => ?_) (fun fa3 fb3 tp3 bt3 nt3 nb3 g3 => ?_)
              · have e : ba_S (fun k => (ch_sw w s k : Int) * (if k = j then 1 else 0)) n = (ch_sw w s j : Int) := by
                  rw [ba_S_one hj (fun s _ hs => by simp [hs])]; simp
                have q := g2 s hs
                rw [e, Int.mul_one] at q
                have ts := ch_tot_pos w s
                refine fp_eq (by omega) (by omega) ?_ q
                have a1 := af_cp w s n hs
                rw [← a1, Int.natCast_mul]; grind
              · have q := g3 i hi
                have eq := (fp_uniq V0 V0 q f).mpr rfl
                exact tell eq.1 eq.2 h0 h1
          refine xm_afterTwo c hi hj f (fun q => ?_) (fun q => ?_)
          · exact walk (x := x) (y := y) _ (fun tp' bt' g => step (fun _ => rfl) (fun z => absurd q z) g)
          · exact walk (x := x) (y := y) _ (fun tp' bt' g => step (fun z => absurd z q) (fun _ => rfl) g)
      · refine br_f n3 (br_f l2 ?_)
        unfold wpY_after
        dsimp only
        exact rf_yp h5 hi hj hpart (br_t (by decide) (br_f n3 (br_f l2 ⟨rfl, J⟩)))
  · refine hX _ (br_f z0 ?_)
    unfold wpY_after
    dsimp only
    exact hY _ (br_f z1 ⟨rfl, J⟩)
end
section
/-! trees -/
def tr_pp (w : Nat → Nat) (n r c : Nat) : Nat → Nat
  | 0 => 1
  | s + 1 => if s = r ∨ n ≤ s then (if tr_dig c s = 0 then tr_pp w n r c s else 0) else if n ≤ tr_dig c s ∨ tr_dig c s = s then 0 else tr_pp w n r c s * w (5 * s + tr_dig c s)
theorem tr_pp_le {w : Nat → Nat} (h9 : ∀ k, k < 25 → w k ≤ 9) {n r c : Nat} (hn : n ≤ 5) : ∀ s, s ≤ 5 → tr_pp w n r c s ≤ 9 ^ s := by
  intro s
  induction s with
  | zero => intro _; exact Nat.le_refl 1
  | succ s ih =>
    intro hs
    have a := ih (by omega)
    have m : 9 ^ s ≤ 9 ^ (s + 1) := Nat.pow_le_pow_right (by decide) (by omega)
    unfold tr_pp
    split
    · split
      · omega
      · exact Nat.zero_le _
    · split
      · exact Nat.zero_le _
      · rename_i h1 h2
        rw [Nat.pow_succ]
        exact Nat.mul_le_mul a (h9 _ (by omega))
theorem tr_prod_snoc (w : Nat → Nat) (k : Nat) : ∀ l, tr_prod w (l ++ [k]) = tr_prod w l * w k := by
  intro l
  induction l with
  | nil => show w k * 1 = 1 * w k; omega
  | cons a l ih =>
    show w a * tr_prod w (l ++ [k]) = w a * tr_prod w l * w k
    rw [ih, Nat.mul_assoc]
def tr_ix (n r c s : Nat) : List Nat := ((List.range s).filter (fun x => decide (x < n) && !(x == r))).map (fun x => 5 * x + tr_dig c x)
theorem tr_ix5 {n r c : Nat} (hn : n ≤ 5) : tr_ix n r c 5 = tr_idx n r c := by
  rcases (by omega : n = 0 ∨ n = 1 ∨ n = 2 ∨ n = 3 ∨ n = 4 ∨ n = 5) with rfl | rfl | rfl | rfl | rfl | rfl <;> rfl
theorem tr_ixs (n r c s : Nat) : tr_ix n r c (s + 1) = if s < n ∧ s ≠ r then tr_ix n r c s ++ [5 * s + tr_dig c s] else tr_ix n r c s := by
  unfold tr_ix
  rw [List.range_succ, List.filter_append, List.map_append]
  by_cases h : s < n ∧ s ≠ r
  · rw [if_pos h]
    have : (decide (s < n) && !(s == r)) = true := by simp [h.1, h.2]
    simp only [List.filter, this, List.map]
  · rw [if_neg h]
    have : (decide (s < n) && !(s == r)) = false := by
      by_cases q : s < n
      · have : s = r := Classical.byContradiction (fun z => h ⟨q, z⟩)
        simp [this]
      · simp [q]
    simp [List.filter, this]
theorem tr_ppv (w : Nat → Nat) (n r c : Nat) : ∀ s, ((∀ x, x < s → tr_fine n r c x = true) → tr_pp w n r c s = tr_prod w (tr_ix n r c s)) ∧ ((∃ x, x < s ∧ tr_fine n r c x = false) → tr_pp w n r c s = 0) := by
  intro s
  induction s with
  | zero => exact ⟨fun _ => rfl, fun ⟨x, hx, _⟩ => by omega⟩
  | succ s ih =>
    obtain ⟨i1, i2⟩ := ih
    have fs : tr_fine n r c s = if s = r ∨ n ≤ s then tr_dig c s == 0 else (decide (tr_dig c s < n) && !(tr_dig c s == s)) := rfl
    constructor
    · intro h
      have a := i1 (fun x hx => h x (by omega))
      have b := h s (by omega)
      rw [fs] at b
      rw [tr_ixs]
      unfold tr_pp
      by_cases q : s = r ∨ n ≤ s
      · rw [if_pos q] at b ⊢
        have d : tr_dig c s = 0 := by simpa using b
        rw [if_pos d, if_neg (by omega)]; exact a
      · rw [if_neg q] at b ⊢
        simp only [Bool.and_eq_true, decide_eq_true_eq, Bool.not_eq_true', beq_eq_false_iff_ne, ne_eq] at b
        rw [if_neg (by omega), if_pos (by omega), tr_prod_snoc, a]
    · rintro ⟨x, hx, hf⟩
      unfold tr_pp
      by_cases e : x = s
      · subst e
        rw [fs] at hf
        by_cases q : x = r ∨ n ≤ x
        · rw [if_pos q] at hf ⊢
          have d : ¬ tr_dig c x = 0 := by simpa using hf
          rw [if_neg d]
        · rw [if_neg q] at hf ⊢
          rw [if_pos ?_]
          rcases Nat.lt_or_ge (tr_dig c x) n with z | z
          · right
            simpa [z] using hf
          · exact .inl z
      · have a := i2 ⟨x, by omega, hf⟩
        rw [a]
        split
        · split <;> rfl
        · split
          · rfl
          · exact Nat.zero_mul _
theorem tr_term {w : Nat → Nat} {n r c : Nat} (hn : n ≤ 5) : (if tr_leads n r c = true then tr_pp w n r c 5 else 0) = if tr_good n r c = true then tr_prod w (tr_idx n r c) else 0 := by
  have P := tr_ppv w n r c 5
  by_cases l : tr_leads n r c = true
  · rw [if_pos l]
    by_cases g : tr_good n r c = true
    · rw [if_pos g, ← tr_ix5 hn]
      apply P.1
      unfold tr_good at g
      simp only [Bool.and_eq_true] at g
      intro x hx
      rcases (by omega : x = 0 ∨ x = 1 ∨ x = 2 ∨ x = 3 ∨ x = 4) with e | e | e | e | e <;> rw [e]
      · exact g.1.1.1.1.1
      · exact g.1.1.1.1.2
      · exact g.1.1.1.2
      · exact g.1.1.2
      · exact g.1.2
    · rw [if_neg g]
      apply P.2
      apply Classical.byContradiction
      intro no
      apply g
      have f : ∀ x, x < 5 → tr_fine n r c x = true := by
        intro x hx
        cases e : tr_fine n r c x
        · exact absurd ⟨x, hx, e⟩ no
        · rfl
      unfold tr_good
      rw [f 0 (by decide), f 1 (by decide), f 2 (by decide), f 3 (by decide), f 4 (by decide), l]
      rfl
  · rw [if_neg l, if_neg (fun g => l (by
      unfold tr_good at g
      simp only [Bool.and_eq_true] at g
      exact g.2))]
theorem tr_dig_lt (c s : Nat) : tr_dig c s < 5 := Nat.mod_lt _ (by decide)
section
variable {n : Nat} {w : Nat → Nat} {a su : Nat → Int32} {sy ov un : Nat → Int64} {fa fb : Int64} {up dn : Nat → Int64} {op : Nat → Int32} {tp bt nt nb : Nat → Int64}
theorem ym_choice {post : Int32 → Prop} {st : Int32} {c s : Nat} (hc : c < 2 ^ 31) (hs : s < 2 ^ 31) (hp : post (nI (tr_dig c s))) : wpY_choice post (st, fa, fb, a, up, dn, op, tp, bt, nt, nb) (nI c) (nI s) := by
  refine loop_0 (fun f k (x : Int32) => wY_choice_5 post (nI s) st fa fb a up dn op tp bt nt nb f x (nI k)) (fun k x => x = nI (c / 5 ^ k)) s (nI c) (by simp) ?_ ?_
  · rintro f x rfl
    have l : c / 5 ^ s < 2 ^ 31 := Nat.lt_of_le_of_lt (Nat.div_le_self _ _) hc
    refine br_t (nI_le (Nat.le_refl s) hs) ⟨by decide, ?_⟩
    rw [ym_r5 l]; exact hp
  · rintro f k x hk rfl ih
    have l : c / 5 ^ k < 2 ^ 31 := Nat.lt_of_le_of_lt (Nat.div_le_self _ _) hc
    refine br_f (nI_ge hk hs) ⟨by decide, nm_r (ym_d5 l) (nm_r (nI_1 k) (ih _ ?_))⟩
    rw [Nat.div_div_eq_div_mul, ← Nat.pow_succ]
theorem ym_leads {post : Int32 → Prop} (h5 : n ≤ 5) {c r : Nat} (hc : c < 2 ^ 31) (hr : r < n) (h1 : tr_leads n r c = true → post 1) (h0 : tr_leads n r c = false → post 0) : wpY_leads post (nI n, fa, fb, a, up, dn, op, tp, bt, nt, nb) (nI c) (nI r) := by
  refine loop_0 (fun f s (_ : Unit) => wY_leads_2 post (nI c) (nI r) (nI n) fa fb a up dn op tp bt nt nb f (nI s)) (fun s _ => ∀ x, x < s → tr_it c r 5 x = r) n () (fun x hx => absurd hx (by omega)) ?_ ?_
  · intro f _ g
    refine br_t (nI_le (Nat.le_refl n) (by omega)) (h1 ?_)
    unfold tr_leads
    rw [List.all_eq_true]
    intro x hx
    have := g x (List.mem_range.mp hx)
    simp [this]
  · intro f s _ hs g ih
    refine br_f (nI_ge hs (by omega)) ?_
    refine loop_0 (fun f' t (x : Int32) => wY_leads_16 post (wY_leads_2 post (nI c) (nI r) (nI n) fa fb a up dn op tp bt nt nb f) (nI c) (nI r) (nI s) (nI n) fa fb a up dn op tp bt nt nb f' x (nI t)) (fun t x => t ≤ 5 ∧ ∃ y, y < 5 ∧ x = nI y ∧ tr_it c r (5 - t) y = tr_it c r 5 s) 5 (nI s) ⟨by decide, s, by omega, rfl, rfl⟩ ?_ ?_
    · rintro f' x ⟨_, y, hy, rfl, e⟩
      have e' : y = tr_it c r 5 s := e
      refine br_t (by decide) ?_
      by_cases q : y = r
      · refine br_t (by rw [q]) (nm_r (nI_1 s) (ih () (fun x hx => ?_)))
        by_cases z : x = s
        · rw [z, ← e', q]
        · exact g x (by omega)
      · refine br_f (fun z => q ((nI_eq (by omega) (by omega)).mp z)) (h0 ?_)
        cases l : tr_leads n r c
        · rfl
        · unfold tr_leads at l
          rw [List.all_eq_true] at l
          have := l s (List.mem_range.mpr hs)
          have z : tr_it c r 5 s = r := by simpa using this
          exact absurd (e'.trans z) q
    · rintro f' t x ht ⟨_, y, hy, rfl, e⟩ ih2
      refine br_f (nI_ge (b := 5) ht (by decide)) ?_
      obtain ⟨d, hd⟩ : ∃ d, 5 - t = d + 1 := ⟨4 - t, by omega⟩
      have hd2 : 5 - (t + 1) = d := by omega
      rw [hd] at e
      by_cases q : y = r
      · refine br_t (by rw [q]) (nm_r (nI_1 t) (ih2 _ ⟨by omega, r, by omega, rfl, ?_⟩))
        rw [hd2]
        unfold tr_it at e
        rw [if_pos q] at e
        exact e
      · refine br_f (fun z => q ((nI_eq (by omega) (by omega)).mp z)) (ym_choice hc (by omega) (nm_r (nI_1 t) (ih2 _ ⟨by omega, tr_dig c y, tr_dig_lt c y, rfl, ?_⟩)))
        rw [hd2]
        unfold tr_it at e
        rw [if_neg q] at e
        exact e
theorem ym_trees {post : Int64 → Prop} (c : cr_Y n w a) {r : Nat} (hr : r < n) (hp : post (lN (tr_sum w n r 3125))) : ∃ f, wY_trees_17 post (nI r) (nI n) fa fb a up dn op tp bt nt nb f 0 0 := by
  have h5 := c.1.2.1
  refine loop_0 (fun f q (s : Int64) => wY_trees_17 post (nI r) (nI n) fa fb a up dn op tp bt nt nb f s (nI q)) (fun q s => s = lN (tr_sum w n r q)) 3125 0 rfl ?_ ?_
  · rintro f s rfl
    exact br_t (by decide) hp
  · rintro f q s hq rfl ih
    refine br_f (nI_ge (b := 3125) hq (by decide)) ?_
    refine loop_0 (fun f' s (x : Int64) => wY_trees_31 post (wY_trees_17 post (nI r) (nI n) fa fb a up dn op tp bt nt nb f) (nI r) (lN (tr_sum w n r q)) (nI q) (nI n) fa fb a up dn op tp bt nt nb f' x (nI s)) (fun s x => x = lN (tr_pp w n r q s)) 5 1 rfl ?_ ?_
    · rintro f' x rfl
      refine br_t (by decide) ?_
      have pl := tr_pp_le c.1.2.2.1 (n := n) (r := r) (c := q) h5 5 (by decide)
      have pl2 : tr_pp w n r q 5 < 2 ^ 63 := by omega
      have step : tr_sum w n r (q + 1) = tr_sum w n r q + if tr_leads n r q = true then tr_pp w n r q 5 else 0 := by
        rw [tr_term h5]; rfl
      by_cases z : tr_pp w n r q 5 = 0
      · refine br_t (by rw [z]; rfl) (nm_r (nI_1 q) (ih _ ?_))
        rw [step, z]; simp
      · refine br_f (fun y => z ((gc_l0 pl2).mp y)) (ym_leads h5 (by omega) hr (fun l => ?_) (fun l => ?_))
        · refine br_f (by decide) (nm_r (lN_add _ _) (nm_r (nI_1 q) (ih _ ?_)))
          rw [step, if_pos l]
        · refine br_t rfl (nm_r (nI_1 q) (ih _ ?_))
          rw [step, l]; simp
    · rintro f' s x hs rfl ih2
      refine br_f (nI_ge (b := 5) hs (by decide)) (ym_choice (by omega) (by omega) ?_)
      have dl := tr_dig_lt q s
      have ps : tr_pp w n r q (s + 1) = if s = r ∨ n ≤ s then (if tr_dig q s = 0 then tr_pp w n r q s else 0) else if n ≤ tr_dig q s ∨ tr_dig q s = s then 0 else tr_pp w n r q s * w (5 * s + tr_dig q s) := rfl
      have idle : s = r ∨ n ≤ s → wY_trees_62 post (wY_trees_17 post (nI r) (nI n) fa fb a up dn op tp bt nt nb f) (wY_trees_31 post (wY_trees_17 post (nI r) (nI n) fa fb a up dn op tp bt nt nb f) (nI r) (lN (tr_sum w n r q)) (nI q) (nI n) fa fb a up dn op tp bt nt nb f') (nI r) (lN (tr_sum w n r q)) (nI q) (lN (tr_pp w n r q s)) (nI s) (nI (tr_dig q s)) (nI n) fa fb a up dn op tp bt nt nb := by
        intro h
        refine br_f (by decide) ?_
        by_cases z : tr_dig q s = 0
        · refine br_t (by rw [z]; rfl) (nm_r (nI_1 s) (ih2 _ ?_))
          rw [ps, if_pos h, if_pos z]
        · refine br_f (fun y => z ((cw_0 (by omega)).mp y)) (nm_r (nI_1 s) (ih2 _ ?_))
          rw [ps, if_pos h, if_neg z]; rfl
      by_cases e : s = r
      · exact br_t (by rw [e]) (idle (.inl e))
      · refine br_f (fun y => e ((nI_eq (by omega) (by omega)).mp y)) ?_
        rcases Nat.lt_or_ge s n with sn | sn
        · refine br_t (nI_lt sn (by omega)) (br_t rfl ?_)
          have no : ¬ (s = r ∨ n ≤ s) := by omega
          rcases Nat.lt_or_ge (tr_dig q s) n with dn' | dn'
          · refine br_f (nI_ge dn' (by omega)) ?_
            by_cases e2 : tr_dig q s = s
            · refine br_t (by rw [e2]) (nm_r (nI_1 s) (ih2 _ ?_))
              rw [ps, if_neg no, if_pos (.inr e2)]; rfl
            · refine br_f (fun y => e2 ((nI_eq (by omega) (by omega)).mp y)) ?_
              have w9 := c.1.2.2.1 (5 * s + tr_dig q s) (by omega)
              rw [ix_5', nI_clamp (by omega : 5 * s + tr_dig q s < 2 ^ 31), c.2 _ (by omega), nI_l (by omega)]
              refine ⟨vp_in_nI (by omega) (by decide), nm_r (lN_mul _ _) (nm_r (nI_1 s) (ih2 _ ?_))⟩
              rw [ps, if_neg no, if_neg (by omega)]
          · refine br_t (nI_le dn' (by omega)) (nm_r (nI_1 s) (ih2 _ ?_))
            rw [ps, if_neg no, if_pos (.inl dn')]; rfl
        · exact br_f (nI_nlt sn (by omega)) (idle (.inr sn))
end
theorem ba_ops_congr {U V : Nat → Bool} : ∀ k, (∀ s, s < k → U s = V s) → ba_ops U k = ba_ops V k := by
  intro k
  induction k with
  | zero => intro _; rfl
  | succ k ih =>
    intro h
    unfold ba_ops
    rw [ih (fun s hs => h s (by omega)), h k (by omega)]
theorem i_vc_trees {k : Nat} {u : SX} {v : SY} (I : i_Rel k u v) (hk : k + 5 ≤ 2561) (v1 : Int32) : wpX_trees (fun r u' => wpY_trees (fun r' => r' = r ∧ i_Rel (k + 5) u' v) v v1) u v1 := by
  have J := i_up I
  obtain ⟨n, w, a, su, sy, ov, un, fa, fb, up, dn, op, tp, bt, nt, nb, rfl, rfl, c⟩ := I
  have h5 := c.1.2.1
  have p2 := rf_p2 h5
  have p1 := Nat.two_pow_pos n
  unfold wpX_trees wpY_trees
  dsimp only
  by_cases h : ∃ i, i < n ∧ v1 = nI i
  · obtain ⟨r, hr, rfl⟩ := h
    refine xm_st1 h5 hr (br_f (by decide) ?_)
    have all : bm_is n (2 ^ n - 1) (fun _ => True) := by
      refine ⟨by omega, fun i hi => ?_⟩
      rw [Nat.testBit_two_pow_sub_one]
      simp [hi]
    have ho := bm_diff h5 all (bm_one hr)
    have e1 : (1 : Int32) <<< (nI n &&& 31) - 1 = nI (2 ^ n - 1) := by
      rw [bm_shl n (by omega)]
      exact pk_sub (b := 1) (by omega)
    rw [e1, bm_shl r (by omega), bm_not _ (bm_lt all h5) _ (bm_lt (bm_one hr) h5)]
    obtain ⟨l, hl⟩ := bm_exists n (fun i => gr_L n (fun x y => 0 < ch_sw w x y) (fun y => y = r) (fun _ => False) (n - 1) i ∧ ¬ i = r)
    refine nm_e (xm_lead (b := 0) c (bm_one hr) (bm_zero n) hl ?_)
    have ol := bm_lt ho h5
    have ll := bm_lt hl h5
    by_cases e : l = (2 ^ n - 1) &&& (31 ^^^ 2 ^ r)
    · refine br_t (by rw [e]) (xm_layOut c ol (fun sy1 h1 => ?_))
      rw [← e] at h1
      have lead : ∀ s, s < n → s ≠ r → gr_L n (fun x y => 0 < ch_sw w x y) (fun y => y = r) (fun _ => False) (n - 1) s := by
        intro s hs ne
        have t : l.testBit s = true := by
          rw [e]; exact (ho.2 s hs).mpr ⟨trivial, ne⟩
        exact ((hl.2 s hs).mp t).1
      have rU : sv_rank n w (fun s => l.testBit s) := gr_rank_of c.1 (G := fun y => (2 ^ r).testBit y) (B := fun _ => False) (fun s hs => (bt_oneM hl).2 s hs)
      have z0 : ∀ t k, ba_S (fun x => if l.testBit x = true then 0 else (0 : Int) * (ch_sw w t x : Int)) k = 0 := fun t k => ba_S_zero (fun x _ => by simp)
      dsimp only
      refine xm_solve c rU (b := fun _ => 0) (r0 := fun _ => 0) (v := fun _ => 0) (fun _ _ => by decide) (fun k t _ _ _ => by rw [z0]; decide) (fun t _ _ => by rw [z0]; rfl) h1 (fun sy2 h2 => ?_)
      have dr : (nI r * 6 + nI r).toNatClampNeg = 6 * r + r := by rw [ix_6]; exact nI_clamp (by omega)
      dsimp only
      refine ⟨by rw [ix_6]; exact vp_in_nI (by omega) (by decide), ?_⟩
      rw [dr, (h2 r hr).1]
      refine ym_st1 h5 hr (br_f (by decide) (ym_trees (cr_XY c) hr ⟨?_, ir_mk (k + 5) c _ _ _ _ _ _ _ _ _ _ _ _⟩))
      have hW : ∀ s, s < n → s ≠ r → ch_W w s ≠ 0 := by
        intro s hs ne z
        obtain ⟨rk, hrk⟩ := gr_ranks (n := n) (E := fun x y => 0 < ch_sw w x y) (G := fun y => y = r) (B := fun _ => False)
        obtain ⟨_, _, _, j, hj, ej, q⟩ := hrk s hs ne (lead s hs ne)
        have js : s = j := by
          apply Classical.byContradiction
          intro no
          have : ch_sw w s j = 0 := by unfold ch_sw; rw [if_pos z, if_neg no]
          have ej' : 0 < ch_sw w s j := ej
          omega
        rcases q with q | q
        · exact ne (js.trans q)
        · rw [← js] at q; omega
      rw [lz_nat, tr_det c.1 hr hW]
      congr 1
      show _ = ba_D (ch_N w) (ba_ops (fun s => l.testBit s) n)
      congr 1
      apply ba_ops_congr
      intro s hs
      by_cases q : s = r
      · have : l.testBit s = false := by
          cases t : l.testBit s
          · rfl
          · exact absurd q ((hl.2 s hs).mp t).2
        rw [this, q]; simp
      · have : l.testBit s = true := (hl.2 s hs).mpr ⟨lead s hs q, q⟩
        rw [this]; simp [q]
    · refine br_f (fun q => e ((nI_eq (by omega) (by omega)).mp q)) ?_
      refine ym_st1 h5 hr (br_f (by decide) (ym_trees (cr_XY c) hr ⟨?_, J⟩))
      have ex : ∃ s, s < n ∧ ¬ gr_L n (fun x y => 0 < ch_sw w x y) (fun y => y = r) (fun _ => False) (n - 1) s := by
        apply Classical.byContradiction
        intro no
        apply e
        refine bm_ext hl ho (fun s hs => ⟨fun q => ⟨trivial, q.2⟩, fun q => ⟨?_, q.2⟩⟩)
        apply Classical.byContradiction
        intro nl
        exact no ⟨s, hs, nl⟩
      obtain ⟨s, hs, nl⟩ := ex
      rw [tr_zero h5 hs nl]; rfl
  · exact xm_st0 h5 h (br_t rfl (ym_st0 h5 h (br_t rfl ⟨rfl, J⟩)))
end
section
/-! reversible -/
def rv_C (n : Nat) (w : Nat → Nat) (K : Nat → Prop) (o u st : Nat → Nat) : Prop :=
  (∀ i, i < n → K i → 1 ≤ o i ∧ o i ≤ 9 ^ (gr_cnt K n - 1) ∧ 1 ≤ u i ∧ u i ≤ 9 ^ (gr_cnt K n - 1) ∧ st i < n) ∧
  (∀ p q, rv_b n w p q → ∀ i, i < n → K i → p i * (u i : Int) * q (st i) = p (st i) * (o i : Int) * q i) ∧
  (∀ i j, i < n → j < n → K i → K j → rv_e w i j → st i = st j) ∧
  (∀ i j, i < n → j < n → K i → rv_e w i j → K j)
theorem rv_CI {n : Nat} {w : Nat → Nat} {K : Nat → Prop} {o u st : Nat → Nat} (h : rv_C n w K o u st) {s : Nat} (hs : s < n) (ns : ¬ K s) : rv_I n w K s (fun i => K i ∨ i = s) (rv_u o s 1) (rv_u u s 1) (rv_u st s s) :=
  rv_start hs ns h.1 h.2.1 h.2.2.1 h.2.2.2
theorem rv_IC {n : Nat} {w : Nat → Nat} {K : Nat → Prop} {s0 : Nat} {kn : Nat → Prop} {o u st : Nat → Nat} (I : rv_I n w K s0 kn o u st) (all : ∀ i, i < n → rv_L n w K s0 (n - 1) i → kn i) : rv_C n w kn o u st :=
  ⟨I.1, I.2.1, I.2.2.1, rv_closed I all⟩
theorem rv_C0 (n : Nat) (w : Nat → Nat) (o u st : Nat → Nat) : rv_C n w (fun _ => False) o u st :=
  ⟨fun _ _ z => z.elim, fun _ _ _ _ _ z => z.elim, fun _ _ _ _ z => z.elim, fun _ _ _ _ z => z.elim⟩
theorem rv_9 {n : Nat} (h5 : n ≤ 5) (K : Nat → Prop) : 9 ^ (gr_cnt K n - 1) ≤ 6561 := by
  have := gr_cnt_le K n
  exact Nat.pow_le_pow_right (n := 9) (i := gr_cnt K n - 1) (j := 4) (by decide) (by omega)
theorem rv_bits (m j : Nat) : (fun x => (m ||| 2 ^ j).testBit x = true) = fun x => m.testBit x = true ∨ x = j := by
  funext x
  apply propext
  rw [Nat.testBit_or, Nat.testBit_two_pow, Bool.or_eq_true, decide_eq_true_eq]
  constructor
  · rintro (h | h)
    · exact .inl h
    · exact .inr h.symm
  · rintro (h | h)
    · exact .inl h
    · exact .inr h.symm
def xr_A (n : Nat) (m : Nat) (ov un : Nat → Int64) (o u : Nat → Nat) : Prop := ∀ i, i < n → m.testBit i = true → ov i = Int64.ofInt (o i : Int) ∧ un i = Int64.ofInt (u i : Int)
section
variable {n : Nat} {w : Nat → Nat} {a su : Nat → Int32} {sy ov un : Nat → Int64}
theorem xm_balFrom {post : Int32 → SX → Prop} (c : cr_X n w a su) {K : Nat → Prop} {s0 : Nat} (hs0 : s0 < n) {m : Nat} (hm : m < 2 ^ n) {o u st : Nat → Nat} (I : rv_I n w K s0 (fun i => m.testBit i = true) o u st) (A : xr_A n m ov un o u) (hK : ∀ i, i < n → K i ∨ i = s0 → m.testBit i = true)
    (hp : ∀ m' ov' un', m' < 2 ^ n → (∀ i, m.testBit i = true → m'.testBit i = true) → (∃ o' u' st', rv_C n w (fun i => m'.testBit i = true) o' u' st' ∧ xr_A n m' ov' un' o' u') → post (nI m') (nI n, a, su, sy, ov', un')) : wpX_balanceFrom post (nI n, a, su, sy, ov, un) (nI m) := by
  have h5 := c.1.2.1
  have h1 := c.1.1
  refine pk_loop (fun f k (s : Int32 × (Nat → Int64) × (Nat → Int64)) => wX_balanceFrom_4 post (nI n) f s.1 (nI k) a su sy s.2.1 s.2.2)
    (fun k s => 1 ≤ k ∧ ∃ m1, s.1 = nI m1 ∧ m1 < 2 ^ n ∧ (∀ i, m.testBit i = true → m1.testBit i = true) ∧ (∃ o1 u1 st1, rv_I n w K s0 (fun i => m1.testBit i = true) o1 u1 st1 ∧ xr_A n m1 s.2.1 s.2.2 o1 u1) ∧ ∀ i, i < n → rv_L n w K s0 (k - 1) i → m1.testBit i = true) n 1 (nI m, ov, un) (by omega) ?_ ?_ ?_
  · exact ⟨by omega, m, rfl, hm, fun _ t => t, ⟨o, u, st, I, A⟩, fun i hi l => hK i hi l⟩
  · rintro f ⟨s1, ov1, un1⟩ ⟨_, m1, rfl, hl, sub, ⟨o1, u1, st1, I1, A1⟩, co⟩
    exact br_t (nI_le (Nat.le_refl n) (by omega)) (hp m1 ov1 un1 hl sub ⟨o1, u1, st1, rv_IC I1 co, A1⟩)
  · rintro f k ⟨s1, ov1, un1⟩ hk ⟨k1, m1, rfl, hl, sub, ⟨o1, u1, st1, I1, A1⟩, co⟩ ih
    refine br_f (nI_ge hk (by omega)) ?_
    dsimp only at A1 ⊢
    refine loop_0 (fun f' i (s : Int32 × (Nat → Int64) × (Nat → Int64)) => wX_balanceFrom_15 post (wX_balanceFrom_4 post (nI n) f) (nI k) (nI n) f' s.1 (nI i) a su sy s.2.1 s.2.2)
      (fun i s => ∃ m2, s.1 = nI m2 ∧ m2 < 2 ^ n ∧ (∀ x, m1.testBit x = true → m2.testBit x = true) ∧ (∃ o2 u2 st2, rv_I n w K s0 (fun i => m2.testBit i = true) o2 u2 st2 ∧ xr_A n m2 s.2.1 s.2.2 o2 u2) ∧ ∀ x y, x < i → y < n → m1.testBit x = true → rv_e w x y → m2.testBit y = true) n (nI m1, ov1, un1) ?_ ?_ ?_
    · exact ⟨m1, rfl, hl, fun _ t => t, ⟨o1, u1, st1, I1, A1⟩, fun x y hx => absurd hx (by omega)⟩
    · rintro f' ⟨s2, ov2, un2⟩ ⟨m2, rfl, hl2, sub2, ex2, co2⟩
      refine br_t (nI_le (Nat.le_refl n) (by omega)) (nm_r (nI_1 k) (ih (nI m2, ov2, un2) ⟨by omega, m2, rfl, hl2, fun i t => sub2 i (sub i t), ex2, fun i hi l => ?_⟩))
      rw [show k + 1 - 1 = (k - 1) + 1 by omega] at l
      rcases l with l | ⟨_, x, hx, e, l⟩
      · exact sub2 i (co i hi l)
      · exact co2 x i hx hi (co x hx l) e
    · rintro f' i ⟨s2, ov2, un2⟩ hi ⟨m2, rfl, hl2, sub2, ⟨o2, u2, st2, I2, A2⟩, co2⟩ ih2
      refine br_f (nI_ge hi (by omega)) ?_
      dsimp only at A2 ⊢
      refine loop_0 (fun f'' j (s : Int32 × (Nat → Int64) × (Nat → Int64)) => wX_balanceFrom_27 post (wX_balanceFrom_4 post (nI n) f) (wX_balanceFrom_15 post (wX_balanceFrom_4 post (nI n) f) (nI k) (nI n) f') (nI k) (nI i) (nI n) f'' s.1 (nI j) a su sy s.2.1 s.2.2)
        (fun j s => ∃ m3, s.1 = nI m3 ∧ m3 < 2 ^ n ∧ (∀ x, m2.testBit x = true → m3.testBit x = true) ∧ (∃ o3 u3 st3, rv_I n w K s0 (fun i => m3.testBit i = true) o3 u3 st3 ∧ xr_A n m3 s.2.1 s.2.2 o3 u3) ∧ ∀ y, y < j → m1.testBit i = true → rv_e w i y → m3.testBit y = true) n (nI m2, ov2, un2) ?_ ?_ ?_
      · exact ⟨m2, rfl, hl2, fun _ t => t, ⟨o2, u2, st2, I2, A2⟩, fun y hy => absurd hy (by omega)⟩
      · rintro f'' ⟨s3, ov3, un3⟩ ⟨m3, rfl, hl3, sub3, ex3, co3⟩
        refine br_t (nI_le (Nat.le_refl n) (by omega)) (nm_r (nI_1 i) (ih2 (nI m3, ov3, un3) ⟨m3, rfl, hl3, fun x t => sub3 x (sub2 x t), ex3, fun x y hx hy t e => ?_⟩))
        by_cases q : x = i
        · rw [q] at t e; exact co3 y hy t e
        · exact sub3 y (co2 x y (by omega) hy t e)
      · rintro f'' j ⟨s3, ov3, un3⟩ hj ⟨m3, rfl, hl3, sub3, ⟨o3, u3, st3, I3, A3⟩, co3⟩ ih3
        dsimp only at A3
        have m32 : m3 < 32 := Nat.lt_of_lt_of_le hl3 (rf_p2 h5)
        have w1 := c.1.2.2.1 (5 * i + j) (by omega)
        have w2 := c.1.2.2.1 (5 * j + i) (by omega)
        have ei : (nI i).toNatClampNeg = i := nI_clamp (by omega)
        have ej : (nI j).toNatClampNeg = j := nI_clamp (by omega)
        have vi : vp_in (nI i) 5 := vp_in_nI (by omega) (by decide)
        have vj : vp_in (nI j) 5 := vp_in_nI (by omega) (by decide)
        refine br_f (nI_ge hj (by omega)) ?_
        dsimp only
        rw [ix_5, ix_5, nI_clamp (by omega : 5 * i + j < 2 ^ 31), nI_clamp (by omega : 5 * j + i < 2 ^ 31), c.2.1 _ (by omega), c.2.1 _ (by omega)]
        refine ⟨vp_in_nI (by omega) (by decide), nm_e ⟨vp_in_nI (by omega) (by decide), nm_e ?_⟩⟩
        have keep : (m1.testBit i = true → rv_e w i j → m3.testBit j = true) → ∀ y, y < j + 1 → m1.testBit i = true → rv_e w i y → m3.testBit y = true := by
          intro h y hy t e
          by_cases q : y = j
          · rw [q] at e ⊢; exact h t e
          · exact co3 y (by omega) t e
        have go : (m1.testBit i = true → rv_e w i j → m3.testBit j = true) → wX_balanceFrom_27 post (wX_balanceFrom_4 post (nI n) f) (wX_balanceFrom_15 post (wX_balanceFrom_4 post (nI n) f) (nI k) (nI n) f') (nI k) (nI i) (nI n) f'' (nI m3) (nI (j + 1)) a su sy ov3 un3 :=
          fun h => ih3 (nI m3, ov3, un3) ⟨m3, rfl, hl3, sub3, ⟨o3, u3, st3, I3, A3⟩, keep h⟩
        refine xm_has m32 (by omega) (fun ti => ?_) (fun ti => ?_)
        · refine br_f (by decide) (xm_has m32 (by omega) (fun tj => ?_) (fun tj => ?_))
          · exact br_f (by decide) (nm_r (nI_1 j) (go (fun _ _ => tj)))
          · refine br_t rfl ?_
            rcases Nat.eq_zero_or_pos (w (5 * i + j)) with z | z
            · exact br_t ((cw_le0 (by omega)).mpr z) (nm_r (nI_1 j) (go (fun _ e => by have := e.1; omega)))
            · refine br_f (fun q => by have := (cw_le0 (by omega)).mp q; omega) ?_
              rcases Nat.eq_zero_or_pos (w (5 * j + i)) with y | y
              · exact br_t ((cw_le0 (by omega)).mpr y) (nm_r (nI_1 j) (go (fun _ e => by have := e.2; omega)))
              · refine br_f (fun q => by have := (cw_le0 (by omega)).mp q; omega) ?_
                have I4 := rv_add c.1.2.2.1 h5 I3 hi hj ti (by rw [tj]; decide) ⟨z, y⟩
                rw [ei, ej, (A3 i hi ti).1, (A3 i hi ti).2, cv_pos (by omega), cv_pos (by omega), ← Int64.ofInt_mul, ← Int64.ofInt_mul, bm_shl j (by omega), bm_or]
                refine ⟨vi, vj, nm_e ⟨vi, vj, nm_e (nm_e (nm_r (nI_1 j) (ih3 (nI (m3 ||| 2 ^ j), vp_updL ov3 j (Int64.ofInt ((o3 i : Int) * (w (5 * i + j) : Int))), vp_updL un3 j (Int64.ofInt ((u3 i : Int) * (w (5 * j + i) : Int)))) ⟨m3 ||| 2 ^ j, rfl, Nat.or_lt_two_pow hl3 (bm_one hj).1, fun x t => by rw [Nat.testBit_or, sub3 x t]; rfl, ⟨_, _, _, by rw [rv_bits]; exact I4, ?_⟩, ?_⟩)))⟩⟩
                · intro x hx t
                  dsimp only
                  have t' : m3.testBit x = true ∨ x = j := (congrFun (rv_bits m3 j) x).mp t
                  by_cases q : x = j
                  · rw [q, pk_uLs, pk_uLs, rv_us, rv_us, Int.natCast_mul, Int.natCast_mul]
                    exact ⟨rfl, rfl⟩
                  · rw [pk_uLn q, pk_uLn q, rv_un _ _ q, rv_un _ _ q]
                    exact A3 x hx (t'.resolve_right q)
                · intro y' hy t e
                  by_cases q : y' = j
                  · rw [q]; exact (congrFun (rv_bits m3 j) j).mpr (.inr rfl)
                  · rw [Nat.testBit_or, co3 y' (by omega) t e]; rfl
        · refine br_t rfl (nm_r (nI_1 j) (go (fun t _ => ?_)))
          rw [sub3 i (sub2 i t)] at ti; cases ti
theorem xm_bal {post : SX → Prop} (c : cr_X n w a su) (hp : ∀ ov' un', (∃ o u st, rv_C n w (fun _ => True) o u st ∧ ∀ i, i < n → ov' i = Int64.ofInt (o i : Int) ∧ un' i = Int64.ofInt (u i : Int)) → post (nI n, a, su, sy, ov', un')) : wpX_balanceNeighbours post (nI n, a, su, sy, ov, un) := by
  have h5 := c.1.2.1
  refine loop_0 (fun f s (q : Int32 × (Nat → Int64) × (Nat → Int64)) => wX_balanceNeighbours_4 post f q.1 (nI s) (nI n) a su sy q.2.1 q.2.2)
    (fun s q => ∃ m, q.1 = nI m ∧ m < 2 ^ n ∧ (∀ x, x < s → m.testBit x = true) ∧ ∃ o u st, rv_C n w (fun i => m.testBit i = true) o u st ∧ xr_A n m q.2.1 q.2.2 o u) n (0, ov, un) ?_ ?_ ?_
  · refine ⟨0, rfl, Nat.two_pow_pos n, fun x hx => absurd hx (by omega), fun _ => 0, fun _ => 0, fun _ => 0, ?_, fun i _ t => by simp at t⟩
    have e : (fun i => (0 : Nat).testBit i = true) = fun _ => False := by funext i; simp
    rw [e]; exact rv_C0 n w _ _ _
  · rintro f ⟨q, ov, un⟩ ⟨m, rfl, hl, all, o, u, st, C, A⟩
    refine br_t (nI_le (Nat.le_refl n) (by omega)) (hp ov un ⟨o, u, st, ?_, fun i hi => A i hi (all i hi)⟩)
    obtain ⟨c1, c2, c3, c4⟩ := C
    have cn : gr_cnt (fun i => m.testBit i = true) n ≤ gr_cnt (fun _ => True) n := gr_cnt_mono (fun _ _ _ => trivial)
    have pw : 9 ^ (gr_cnt (fun i => m.testBit i = true) n - 1) ≤ 9 ^ (gr_cnt (fun _ => True) n - 1) := Nat.pow_le_pow_right (by decide) (by omega)
    refine ⟨fun i hi _ => ?_, fun p q b i hi _ => c2 p q b i hi (all i hi), fun i j hi hj _ _ e => c3 i j hi hj (all i hi) (all j hj) e, fun _ _ _ _ _ _ => trivial⟩
    have := c1 i hi (all i hi)
    omega
  · rintro f s ⟨q, ov, un⟩ hs ⟨m, rfl, hl, all, o, u, st, C, A⟩ ih
    dsimp only at A
    have m32 : m < 32 := Nat.lt_of_lt_of_le hl (rf_p2 h5)
    have es : (nI s).toNatClampNeg = s := nI_clamp (by omega)
    have vs : vp_in (nI s) 5 := vp_in_nI (by omega) (by decide)
    refine br_f (nI_ge hs (by omega)) ?_
    dsimp only
    refine xm_has m32 (by omega) (fun t => ?_) (fun t => ?_)
    · refine br_f (by decide) (nm_r (nI_1 s) (ih (nI m, ov, un) ⟨m, rfl, hl, fun x hx => ?_, o, u, st, C, A⟩))
      by_cases e : x = s
      · rw [e]; exact t
      · exact all x (by omega)
    · refine br_t rfl ⟨vs, nm_e ⟨vs, nm_e ?_⟩⟩
      rw [es, bm_shl s (by omega), bm_or]
      have I0 := rv_CI C hs (by rw [t]; decide)
      refine xm_balFrom (m := m ||| 2 ^ s) (K := fun i => m.testBit i = true) (s0 := s) c hs (Nat.or_lt_two_pow hl (bm_one hs).1) (by rw [rv_bits]; exact I0) ?_ (fun i _ h => (congrFun (rv_bits m s) i).mpr h) (fun m' ov' un' hl' sub ex => ?_)
      · intro x hx t'
        have t'' : m.testBit x = true ∨ x = s := (congrFun (rv_bits m s) x).mp t'
        by_cases q : x = s
        · rw [q, pk_uLs, pk_uLs, rv_us, rv_us]; exact ⟨rfl, rfl⟩
        · rw [pk_uLn q, pk_uLn q, rv_un _ _ q, rv_un _ _ q]
          exact A x hx (t''.resolve_right q)
      · dsimp only
        obtain ⟨o', u', st', C', A'⟩ := ex
        refine nm_r (nI_1 s) (ih (nI m', ov', un') ⟨m', rfl, hl', fun x hx => sub x ?_, o', u', st', C', A'⟩)
        refine (congrFun (rv_bits m s) x).mpr ?_
        by_cases e : x = s
        · exact .inr e
        · exact .inl (all x (by omega))
theorem xm_rev {post : Int32 → SX → Prop} (c : cr_X n w a su) (h1 : (∃ p q, rv_b n w p q) → ∀ ov' un', post 1 (nI n, a, su, sy, ov', un')) (h0 : (¬ ∃ p q, rv_b n w p q) → ∀ ov' un', post 0 (nI n, a, su, sy, ov', un')) : wpX_reversible post (nI n, a, su, sy, ov, un) := by
  have h5 := c.1.2.1
  unfold wpX_reversible
  dsimp only
  refine xm_bal c (fun ov un ⟨o, u, st, C, A⟩ => ?_)
  dsimp only
  obtain ⟨c1, c2, c3, _⟩ := C
  have n9 := rv_9 h5 (fun _ => True)
  have bo : ∀ i, i < n → 1 ≤ o i ∧ o i ≤ 6561 ∧ 1 ≤ u i ∧ u i ≤ 6561 ∧ st i < n := fun i hi => by
    have := c1 i hi trivial
    omega
  refine loop_0 (fun f i (_ : Unit) => wX_reversible_6 post (nI n) a su sy ov un f (nI i)) (fun i _ => ∀ x y, x < i → y < x → (o x : Int) * (u y : Int) * (w (5 * x + y) : Int) = (o y : Int) * (u x : Int) * (w (5 * y + x) : Int)) n () (fun x y hx => absurd hx (by omega)) ?_ ?_
  · intro f _ g
    refine br_t (nI_le (Nat.le_refl n) (by omega)) (h1 ⟨fun i => (o i : Int), fun i => (u i : Int), fun i hi => ⟨by have := bo i hi; show (0 : Int) < (o i : Int); omega, by have := bo i hi; show (0 : Int) < (u i : Int); omega⟩, fun i j hi hj => ?_⟩ ov un)
    rcases Nat.lt_trichotomy i j with q | q | q
    · exact (g j i hj q).symm
    · rw [q]
    · exact g i j hi q
  · intro f i _ hi g ih
    refine br_f (nI_ge hi (by omega)) ?_
    refine loop_0 (fun f' j (_ : Unit) => wX_reversible_16 post (wX_reversible_6 post (nI n) a su sy ov un f) (nI i) (nI n) a su sy ov un f' (nI j)) (fun j _ => ∀ y, y < j → (o i : Int) * (u y : Int) * (w (5 * i + y) : Int) = (o y : Int) * (u i : Int) * (w (5 * y + i) : Int)) i () (fun y hy => absurd hy (by omega)) ?_ ?_
    · intro f' _ g2
      refine br_t (nI_le (Nat.le_refl i) (by omega)) (nm_r (nI_1 i) (ih () (fun x y hx hy => ?_)))
      by_cases q : x = i
      · rw [q] at hy ⊢; exact g2 y hy
      · exact g x y (by omega) hy
    · intro f' j _ hj g2 ih2
      have ei : (nI i).toNatClampNeg = i := nI_clamp (by omega)
      have ej : (nI j).toNatClampNeg = j := nI_clamp (by omega)
      have vi : vp_in (nI i) 5 := vp_in_nI (by omega) (by decide)
      have vj : vp_in (nI j) 5 := vp_in_nI (by omega) (by decide)
      have w1 := c.1.2.2.1 (5 * i + j) (by omega)
      have w2 := c.1.2.2.1 (5 * j + i) (by omega)
      have bi := bo i hi
      have bj := bo j (by omega)
      refine br_f (nI_ge hj (by omega)) ?_
      rw [ix_5, ix_5, nI_clamp (by omega : 5 * i + j < 2 ^ 31), nI_clamp (by omega : 5 * j + i < 2 ^ 31), c.2.1 _ (by omega), c.2.1 _ (by omega), ei, ej, (A i hi).1, (A i hi).2, (A j (by omega)).1, (A j (by omega)).2, cv_pos (by omega), cv_pos (by omega), ← Int64.ofInt_mul, ← Int64.ofInt_mul, ← Int64.ofInt_mul, ← Int64.ofInt_mul]
      have v25 : vp_in (nI (5 * i + j)) 25 := vp_in_nI (by omega) (by decide)
      have v25' : vp_in (nI (5 * j + i)) 25 := vp_in_nI (by omega) (by decide)
      refine ⟨vi, vj, v25, nm_e ⟨vj, vi, v25', nm_e ?_⟩⟩
      have b1 : ((o i : Int) * (u j : Int) * (w (5 * i + j) : Int)).natAbs ≤ 6561 * 6561 * 9 := ba_nm (ba_nm (by omega) (by omega)) (by omega)
      have b2 : ((o j : Int) * (u i : Int) * (w (5 * j + i) : Int)).natAbs ≤ 6561 * 6561 * 9 := ba_nm (ba_nm (by omega) (by omega)) (by omega)
      by_cases e : (o i : Int) * (u j : Int) * (w (5 * i + j) : Int) = (o j : Int) * (u i : Int) * (w (5 * j + i) : Int)
      · refine br_t (by rw [e]) (nm_r (nI_1 j) (ih2 () (fun y hy => ?_)))
        by_cases q : y = j
        · rw [q]; exact e
        · exact g2 y (by omega)
      · refine br_f (fun q => e ((lz_eq (by omega) (by omega)).mp q)) (h0 (fun ⟨p, q, b⟩ => ?_) ov un)
        rcases rv_fin (fun i hi => by have := bo i hi; omega) (fun p q b i hi => c2 p q b i hi trivial) (fun i j hi hj e => c3 i j hi hj trivial trivial e) b hi (show j < n by omega) with z | z
        · exact e (by rw [z.1, z.2]; simp)
        · exact e z.2
end
end
section
/-! reversible: the reference's side -/
def yr_A (n : Nat) (w : Nat → Nat) (kn : Nat → Prop) (tp bt : Nat → Int64) (o u st : Nat → Nat) : Prop :=
  ∀ i, i < n → (kn i → fp_is (tp i) (bt i) ((o i : Int) * (ch_tot w i : Int)) ((u i : Int) * (ch_tot w (st i) : Int))) ∧ (¬ kn i → tp i = 0)
theorem sw_off {n : Nat} {w : Nat → Nat} (ok : ch_ok n w) {i j : Nat} (hi : i < 5) (hj : j < 5) (ne : i ≠ j) : ch_sw w i j = w (5 * i + j) := by
  unfold ch_sw
  by_cases z : ch_W w i = 0
  · rw [if_pos z, if_neg ne]
    unfold ch_W at z
    rcases (by omega : j = 0 ∨ j = 1 ∨ j = 2 ∨ j = 3 ∨ j = 4) with rfl | rfl | rfl | rfl | rfl
    · rw [Nat.add_zero]; omega
    · omega
    · omega
    · omega
    · omega
  · rw [if_neg z]
theorem yr_pos {n : Nat} {w : Nat → Nat} (h5 : n ≤ 5) {K : Nat → Prop} {s0 : Nat} {kn : Nat → Prop} {o u st : Nat → Nat} (I : rv_I n w K s0 kn o u st) {i : Nat} (hi : i < n) (ki : kn i) : 1 ≤ o i ∧ o i ≤ 6561 ∧ 1 ≤ u i ∧ u i ≤ 6561 ∧ st i < n := by
  have := I.1 i hi ki
  have := rv_9 h5 kn
  omega
section
variable {n : Nat} {w : Nat → Nat} {a : Nat → Int32} {fa fb : Int64} {up dn : Nat → Int64} {op : Nat → Int32} {tp bt nt nb : Nat → Int64}
theorem ym_carry {post : SY → Prop} (c : cr_Y n w a) {K : Nat → Prop} {s0 : Nat} {kn : Nat → Prop} {o u st : Nat → Nat} (I : rv_I n w K s0 kn o u st) (A : yr_A n w kn tp bt o u st) {i j : Nat} (hi : i < 5) (hj : j < 5)
    (hp : ∀ fa' fb' tp' bt' (kn' : Nat → Prop), (∀ x, kn x → kn' x) → (i < n → j < n → kn i → rv_e w i j → kn' j) → (∃ o' u' st', rv_I n w K s0 kn' o' u' st' ∧ yr_A n w kn' tp' bt' o' u' st') → post (nI n, fa', fb', a, up, dn, op, tp', bt', nt, nb)) :
    wpY_carry post (nI n, fa, fb, a, up, dn, op, tp, bt, nt, nb) (nI i) (nI j) := by
  have h5 := c.1.2.1
  have no : (i < n → j < n → kn i → rv_e w i j → kn j) → post (nI n, fa, fb, a, up, dn, op, tp, bt, nt, nb) := fun h => hp fa fb tp bt kn (fun _ t => t) h ⟨o, u, st, I, A⟩
  have s38 : (i < n → j < n → kn i → rv_e w i j → kn j) → wY_carry_38 post (nI i) (nI j) (nI n) fa fb a up dn op tp bt nt nb := fun h => br_t rfl (no h)
  unfold wpY_carry
  dsimp only
  rcases Nat.lt_or_ge i n with hin | hin
  · refine br_f (nI_ge hin (by omega)) ?_
    rcases Nat.lt_or_ge j n with hjn | hjn
    · refine br_f (nI_ge hjn (by omega)) (ym_sw c hi hj ?_)
      have s1 := ch_sw_le c.1 hi hj
      have s2 := ch_sw_le c.1 hj hi
      have swpos : ∀ {x y}, x < 5 → y < 5 → 0 < w (5 * x + y) → 0 < ch_sw w x y := by
        intro x y hx hy h
        have W : ch_W w x ≠ 0 := by
          intro z
          unfold ch_W at z
          rcases (by omega : y = 0 ∨ y = 1 ∨ y = 2 ∨ y = 3 ∨ y = 4) with rfl | rfl | rfl | rfl | rfl
          · rw [Nat.add_zero] at h; omega
          · omega
          · omega
          · omega
          · omega
        unfold ch_sw
        rw [if_neg W]; exact h
      rcases Nat.eq_zero_or_pos (ch_sw w i j) with z | z
      · exact br_t ((cw_le0 (by omega)).mpr z) (s38 (fun _ _ _ e => by have := swpos hi hj e.1; omega))
      · refine br_f (fun q => by have := (cw_le0 (by omega)).mp q; omega) (ym_sw c hj hi ?_)
        rcases Nat.eq_zero_or_pos (ch_sw w j i) with y | y
        · exact br_t ((cw_le0 (by omega)).mpr y) (s38 (fun _ _ _ e => by have := swpos hj hi e.2; omega))
        · refine br_f (fun q => by have := (cw_le0 (by omega)).mp q; omega) ?_
          have ei : (nI i).toNatClampNeg = i := nI_clamp (by omega)
          have ej : (nI j).toNatClampNeg = j := nI_clamp (by omega)
          have vi : vp_in (nI i) 5 := vp_in_nI hi (by decide)
          have vj : vp_in (nI j) 5 := vp_in_nI hj (by decide)
          refine br_f (by decide) ⟨vi, ?_⟩
          rw [ei, ej]
          by_cases ki : kn i
          · have pi := yr_pos h5 I hin ki
            have fi := (A i hin).1 ki
            have ti := ch_tot_pos w i
            have tl := ch_tot_le c.1 (i := i) hi
            have ts := ch_tot_pos w (st i)
            have tsl := ch_tot_le c.1 (i := st i) (by omega)
            have oi : 0 < (o i : Int) * (ch_tot w i : Int) := Int.mul_pos (by omega) (by omega)
            have ui : 0 < (u i : Int) * (ch_tot w (st i) : Int) := Int.mul_pos (by omega) (by omega)
            have oib : (o i : Int) * (ch_tot w i : Int) ≤ 6561 * 45 := Int.mul_le_mul (by omega) (by omega) (by omega) (by omega)
            have uib : (u i : Int) * (ch_tot w (st i) : Int) ≤ 6561 * 45 := Int.mul_le_mul (by omega) (by omega) (by omega) (by omega)
            refine br_f (fun q => by have := (fp_zero ui fi).mp q; omega) ⟨vj, ?_⟩
            by_cases kj : kn j
            · have pj := yr_pos h5 I hjn kj
              have tj := ch_tot_pos w j
              have tsj := ch_tot_pos w (st j)
              have oj : 0 < (o j : Int) * (ch_tot w j : Int) := Int.mul_pos (by omega) (by omega)
              have uj : 0 < (u j : Int) * (ch_tot w (st j) : Int) := Int.mul_pos (by omega) (by omega)
              exact br_f (fun q => by have := (fp_zero uj ((A j hjn).1 kj)).mp q; omega) (no (fun _ _ _ _ => kj))
            · have ne : i ≠ j := fun e => kj (e ▸ ki)
              have e1 := sw_off c.1 hi hj ne
              have e2 := sw_off c.1 hj hi (Ne.symm ne)
              have tj := ch_tot_pos w j
              have tjl := ch_tot_le c.1 (i := j) hj
              refine br_t ((A j hjn).2 kj) ⟨vi, vi, ym_sw c hi hj (ym_tot c hi ?_)⟩
              rw [cv_pos (by omega), cv_pos (by omega)]
              have b1 : ((o i : Int) * (ch_tot w i : Int) * (ch_sw w i j : Int)).natAbs ≤ 295245 * 9 := ba_nm (by omega) (by omega)
              have b2 : (u i : Int) * (ch_tot w (st i) : Int) * (ch_tot w i : Int) ≤ 295245 * 45 := Int.mul_le_mul (by omega) (by omega) (by omega) (by omega)
              have b2p : 0 < (u i : Int) * (ch_tot w (st i) : Int) * (ch_tot w i : Int) := Int.mul_pos ui (by omega)
              refine ym_mulS fi ui (by omega) (by omega) (by omega) (by omega) (by omega) (fun x1 y1 f1 => ?_)
              dsimp only
              refine ym_tot c hj (ym_sw c hj hi ?_)
              rw [cv_pos (by omega), cv_pos (by omega)]
              have b3 : ((o i : Int) * (ch_tot w i : Int) * (ch_sw w i j : Int) * (ch_tot w j : Int)).natAbs ≤ 295245 * 9 * 45 := ba_nm b1 (by omega)
              have b4 : (u i : Int) * (ch_tot w (st i) : Int) * (ch_tot w i : Int) * (ch_sw w j i : Int) ≤ 295245 * 45 * 9 := Int.mul_le_mul b2 (by omega) (by omega) (by omega)
              have b4p : 0 < (u i : Int) * (ch_tot w (st i) : Int) * (ch_tot w i : Int) * (ch_sw w j i : Int) := Int.mul_pos b2p (by omega)
              refine ym_mulS f1 b2p (by omega) (by omega) (by omega) (by omega) (by omega) (fun x2 y2 f2 => ?_)
              dsimp only
              have ev : rv_e w i j := ⟨by omega, by omega⟩
              have I2 := rv_add c.1.2.2.1 h5 I hin hjn ki kj ev
              refine ⟨vj, nm_e ⟨vj, nm_e (hp x2 y2 (vp_updL tp j x2) (vp_updL bt j y2) (fun x => kn x ∨ x = j) (fun x t => .inl t) (fun _ _ _ _ => .inr rfl) ⟨_, _, _, I2, ?_⟩)⟩⟩
              intro x hx
              by_cases q : x = j
              · rw [q, pk_uLs, pk_uLs, rv_us, rv_us, rv_us]
                refine ⟨fun _ => ?_, fun z => absurd (.inr rfl) z⟩
                rw [← e1, ← e2]
                refine fp_eq b4p (Int.mul_pos (by rw [Int.natCast_mul]; exact Int.mul_pos (by omega) (by omega)) (by omega)) ?_ f2
                rw [Int.natCast_mul, Int.natCast_mul]
                grind
              · rw [pk_uLn q, pk_uLn q, rv_un _ _ q, rv_un _ _ q, rv_un _ _ q]
                exact ⟨fun z => (A x hx).1 (z.resolve_right q), fun z => (A x hx).2 (fun y => z (.inl y))⟩
          · exact br_t ((A i hin).2 ki) (no (fun _ _ t _ => absurd t ki))
    · exact br_t (nI_le hjn (by omega)) (s38 (fun _ h => absurd h (by omega)))
  · exact br_t (nI_le hin (by omega)) (s38 (fun h => absurd h (by omega)))
theorem ym_balW {post : Int32 → SY → Prop} (c : cr_Y n w a) {o u st : Nat → Nat} (bo : ∀ i, i < n → 1 ≤ o i ∧ o i ≤ 6561 ∧ 1 ≤ u i ∧ u i ≤ 6561 ∧ st i < n)
    (A : ∀ i, i < n → fp_is (tp i) (bt i) ((o i : Int) * (ch_tot w i : Int)) ((u i : Int) * (ch_tot w (st i) : Int))) {i j : Nat} (hi : i < n) (hj : j < n)
    (h1 : (o i : Int) * ((u j : Int) * (ch_tot w (st j) : Int)) * (ch_sw w i j : Int) = (o j : Int) * ((u i : Int) * (ch_tot w (st i) : Int)) * (ch_sw w j i : Int) → ∀ fa' fb', post 1 (nI n, fa', fb', a, up, dn, op, tp, bt, nt, nb))
    (h0 : ¬ (o i : Int) * ((u j : Int) * (ch_tot w (st j) : Int)) * (ch_sw w i j : Int) = (o j : Int) * ((u i : Int) * (ch_tot w (st i) : Int)) * (ch_sw w j i : Int) → ∀ fa' fb', post 0 (nI n, fa', fb', a, up, dn, op, tp, bt, nt, nb)) :
    wpY_balances post (nI n, fa, fb, a, up, dn, op, tp, bt, nt, nb) (nI i) (nI j) := by
  have h5 := c.1.2.1
  have ei : (nI i).toNatClampNeg = i := nI_clamp (by omega)
  have ej : (nI j).toNatClampNeg = j := nI_clamp (by omega)
  have vi : vp_in (nI i) 5 := vp_in_nI (by omega) (by decide)
  have vj : vp_in (nI j) 5 := vp_in_nI (by omega) (by decide)
  have one : ∀ {i j}, i < n → j < n → 0 < (u i : Int) * (ch_tot w (st i) : Int) ∧ 0 < (u i : Int) * (ch_tot w (st i) : Int) * (ch_tot w i : Int) ∧ (u i : Int) * (ch_tot w (st i) : Int) * (ch_tot w i : Int) ≤ 295245 * 45 ∧ ((o i : Int) * (ch_tot w i : Int) * (ch_sw w i j : Int)).natAbs ≤ 295245 * 9 := by
    intro i j hi hj
    have b := bo i hi
    have ti := ch_tot_pos w i
    have tl := ch_tot_le c.1 (i := i) (by omega)
    have ts := ch_tot_pos w (st i)
    have tsl := ch_tot_le c.1 (i := st i) (by omega)
    have s1 := ch_sw_le c.1 (i := i) (j := j) (by omega) (by omega)
    have ui : 0 < (u i : Int) * (ch_tot w (st i) : Int) := Int.mul_pos (by omega) (by omega)
    have oi : 0 < (o i : Int) * (ch_tot w i : Int) := Int.mul_pos (by omega) (by omega)
    have oib : (o i : Int) * (ch_tot w i : Int) ≤ 6561 * 45 := Int.mul_le_mul (by omega) (by omega) (by omega) (by omega)
    have uib : (u i : Int) * (ch_tot w (st i) : Int) ≤ 6561 * 45 := Int.mul_le_mul (by omega) (by omega) (by omega) (by omega)
    exact ⟨ui, Int.mul_pos ui (by omega), Int.mul_le_mul (by omega) (by omega) (by omega) (by omega), ba_nm (by omega) (by omega)⟩
  have Bi := one hi hj
  have Bj := one hj hi
  have tl := ch_tot_le c.1 (i := i) (by omega)
  have tlj := ch_tot_le c.1 (i := j) (by omega)
  have ti := ch_tot_pos w i
  have tj := ch_tot_pos w j
  have s1 := ch_sw_le c.1 (i := i) (j := j) (by omega) (by omega)
  have s2 := ch_sw_le c.1 (i := j) (j := i) (by omega) (by omega)
  unfold wpY_balances
  dsimp only
  rw [ei, ej]
  refine ⟨vi, vi, ym_sw c (by omega) (by omega) (ym_tot c (by omega) ?_)⟩
  rw [cv_pos (by omega), cv_pos (by omega)]
  refine ym_mulS (A i hi) Bi.1 (by omega) (by omega) (by omega) (by omega) (by omega) (fun x1 y1 f1 => ?_)
  dsimp only
  refine ⟨vj, vj, ym_sw c (by omega) (by omega) (ym_tot c (by omega) ?_)⟩
  rw [cv_pos (by omega), cv_pos (by omega)]
  refine ym_mulS (A j hj) Bj.1 (by omega) (by omega) (by omega) (by omega) (by omega) (fun x2 y2 f2 => ?_)
  dsimp only
  have key := fp_uniq Bi.2.1 Bj.2.1 f1 f2
  have tt : 0 < (ch_tot w i : Int) * (ch_tot w j : Int) := Int.mul_pos (by omega) (by omega)
  have conv : (o i : Int) * (ch_tot w i : Int) * (ch_sw w i j : Int) * ((u j : Int) * (ch_tot w (st j) : Int) * (ch_tot w j : Int)) = (o j : Int) * (ch_tot w j : Int) * (ch_sw w j i : Int) * ((u i : Int) * (ch_tot w (st i) : Int) * (ch_tot w i : Int)) ↔ (o i : Int) * ((u j : Int) * (ch_tot w (st j) : Int)) * (ch_sw w i j : Int) = (o j : Int) * ((u i : Int) * (ch_tot w (st i) : Int)) * (ch_sw w j i : Int) := by
    have l1 : (o i : Int) * (ch_tot w i : Int) * (ch_sw w i j : Int) * ((u j : Int) * (ch_tot w (st j) : Int) * (ch_tot w j : Int)) = ((ch_tot w i : Int) * (ch_tot w j : Int)) * ((o i : Int) * ((u j : Int) * (ch_tot w (st j) : Int)) * (ch_sw w i j : Int)) := by grind
    have l2 : (o j : Int) * (ch_tot w j : Int) * (ch_sw w j i : Int) * ((u i : Int) * (ch_tot w (st i) : Int) * (ch_tot w i : Int)) = ((ch_tot w i : Int) * (ch_tot w j : Int)) * ((o j : Int) * ((u i : Int) * (ch_tot w (st i) : Int)) * (ch_sw w j i : Int)) := by grind
    rw [l1, l2]
    exact ⟨fun h => ba_cancel tt h, fun h => by rw [h]⟩
  by_cases ea : x1 = x2
  · by_cases eb : y1 = y2
    · exact br_t ea (br_t eb (h1 (conv.mp (key.mp ⟨ea, eb⟩)) x2 y2))
    · exact br_t ea (br_f eb (h0 (fun q => eb (key.mpr (conv.mpr q)).2) x2 y2))
  · exact br_f ea (h0 (fun q => ea (key.mpr (conv.mpr q)).1) x2 y2)
theorem ym_rounds {J : Int32 → Int32 → Int64 → Int64 → (Nat → Int32) → (Nat → Int64) → (Nat → Int64) → (Nat → Int32) → (Nat → Int64) → (Nat → Int64) → (Nat → Int64) → (Nat → Int64) → Prop} {post : Int32 → SY → Prop} (c : cr_Y n w a) {K : Nat → Prop} {s0 s : Nat} {kn : Nat → Prop} {o u st : Nat → Nat} (I : rv_I n w K s0 kn o u st) (A : yr_A n w kn tp bt o u st) (hK : ∀ i, i < n → K i ∨ i = s0 → kn i)
    (hJ : ∀ fa' fb' tp' bt' (kn' : Nat → Prop), (∀ x, kn x → kn' x) → (∃ o' u' st', rv_C n w kn' o' u' st' ∧ yr_A n w kn' tp' bt' o' u' st') → J (nI (s + 1)) (nI n) fa' fb' a up dn op tp' bt' nt nb) :
    ∃ f, wY_reversible_67 post J (nI s) f 0 (nI n) fa fb a up dn op tp bt nt nb := by
  have h5 := c.1.2.1
  refine loop_0 (fun f t (q : Int64 × Int64 × (Nat → Int64) × (Nat → Int64)) => wY_reversible_67 post J (nI s) f (nI t) (nI n) q.1 q.2.1 a up dn op q.2.2.1 q.2.2.2 nt nb)
    (fun t q => ∃ kn1 kn0 : Nat → Prop, (∀ x, kn x → kn1 x) ∧ (∀ x, kn0 x → kn1 x) ∧ (∃ o1 u1 st1, rv_I n w K s0 kn1 o1 u1 st1 ∧ yr_A n w kn1 q.2.2.1 q.2.2.2 o1 u1 st1) ∧ (∀ i, i < n → rv_L n w K s0 (t / 25) i → kn0 i) ∧ ∀ x y, x < n → y < n → 5 * x + y < t % 25 → kn0 x → rv_e w x y → kn1 y) 125 (fa, fb, tp, bt) ?_ ?_ ?_
  · exact ⟨kn, kn, fun _ t => t, fun _ t => t, ⟨o, u, st, I, A⟩, fun i hi l => hK i hi l, fun x y _ _ h => absurd h (by omega)⟩
  · rintro f ⟨fa, fb, tp, bt⟩ ⟨kn1, kn0, s1, s2, ⟨o1, u1, st1, I1, A1⟩, co, _⟩
    refine br_t (by decide) (nm_r (nI_1 s) (hJ fa fb tp bt kn1 s1 ⟨o1, u1, st1, rv_IC I1 (fun i hi l => s2 i (co i hi ?_)), A1⟩))
    exact gr_L_up (by omega) l
  · rintro f t ⟨fa, fb, tp, bt⟩ ht ⟨kn1, kn0, s1, s2, ⟨o1, u1, st1, I1, A1⟩, co, pr⟩ ih
    dsimp only at A1
    refine br_f (nI_ge (b := 125) ht (by decide)) ⟨by decide, by decide, by decide, ?_⟩
    dsimp only
    rw [ym_r5 (by omega : t < 2 ^ 31), ym_d5 (by omega : t < 2 ^ 31), ym_r5 (by omega : t / 5 < 2 ^ 31)]
    have hi : t / 5 % 5 < 5 := Nat.mod_lt _ (by decide)
    have hj : t % 5 < 5 := Nat.mod_lt _ (by decide)
    have e : t % 25 = 5 * (t / 5 % 5) + t % 5 := by omega
    refine ym_carry c I1 A1 hi hj (fun fa' fb' tp' bt' kn2 k1 k2 ex => ?_)
    dsimp only
    refine nm_r (nI_1 t) (ih (fa', fb', tp', bt') ?_)
    have pr2 : ∀ x y, x < n → y < n → 5 * x + y < t % 25 + 1 → kn0 x → rv_e w x y → kn2 y := by
      intro x y hx hy h t0 ee
      by_cases q : 5 * x + y = t % 25
      · have ex1 : x = t / 5 % 5 := by omega
        have ey1 : y = t % 5 := by omega
        rw [ex1] at hx t0 ee
        rw [ey1] at hy ee ⊢
        exact k2 hx hy (s2 _ t0) ee
      · exact k1 y (pr x y hx hy (by omega) t0 ee)
    by_cases q : t % 25 = 24
    · refine ⟨kn2, kn2, fun x z => k1 x (s1 x z), fun _ z => z, ex, fun i hin l => ?_, fun x y _ _ h => absurd h (by omega)⟩
      rw [show (t + 1) / 25 = t / 25 + 1 by omega] at l
      rcases l with l | ⟨_, x, hx, ee, l⟩
      · exact k1 i (s2 i (co i hin l))
      · exact pr2 x i hx hin (by omega) (co x hx l) ee
    · refine ⟨kn2, kn0, fun x z => k1 x (s1 x z), fun x z => k1 x (s2 x z), ex, fun i hin l => co i hin (by rwa [show (t + 1) / 25 = t / 25 by omega] at l), fun x y hx hy h => pr2 x y hx hy (by omega)⟩
theorem ym_check {post : Int32 → SY → Prop} (c : cr_Y n w a) {o u st : Nat → Nat} (C : rv_C n w (fun _ => True) o u st) (A : ∀ i, i < n → fp_is (tp i) (bt i) ((o i : Int) * (ch_tot w i : Int)) ((u i : Int) * (ch_tot w (st i) : Int)))
    (h1 : (∃ p q, rv_b n w p q) → ∀ fa' fb', post 1 (nI n, fa', fb', a, up, dn, op, tp, bt, nt, nb)) (h0 : (¬ ∃ p q, rv_b n w p q) → ∀ fa' fb', post 0 (nI n, fa', fb', a, up, dn, op, tp, bt, nt, nb)) :
    ∃ f, wY_reversible_99 post f 0 (nI n) fa fb a up dn op tp bt nt nb := by
  have h5 := c.1.2.1
  obtain ⟨c1, c2, c3, _⟩ := C
  have n9 := rv_9 h5 (fun _ => True)
  have bo : ∀ i, i < n → 1 ≤ o i ∧ o i ≤ 6561 ∧ 1 ≤ u i ∧ u i ≤ 6561 ∧ st i < n := fun i hi => by
    have := c1 i hi trivial
    omega
  refine loop_0 (fun f p (q : Int64 × Int64) => wY_reversible_99 post f (nI p) (nI n) q.1 q.2 a up dn op tp bt nt nb)
    (fun p _ => ∀ i j, i < n → j < n → 5 * i + j < p → (o i : Int) * ((u j : Int) * (ch_tot w (st j) : Int)) * (ch_sw w i j : Int) = (o j : Int) * ((u i : Int) * (ch_tot w (st i) : Int)) * (ch_sw w j i : Int)) 25 (fa, fb) (fun i j _ _ h => absurd h (by omega)) ?_ ?_
  · rintro f ⟨fa, fb⟩ g
    refine br_t (by decide) (h1 ⟨fun i => (o i : Int), fun i => (u i : Int) * (ch_tot w (st i) : Int), fun i hi => ⟨?_, ?_⟩, fun i j hi hj => ?_⟩ fa fb)
    · have := bo i hi
      show (0 : Int) < (o i : Int)
      omega
    · have := bo i hi
      have := ch_tot_pos w (st i)
      exact Int.mul_pos (by omega) (by omega)
    · by_cases e : i = j
      · rw [e]
      · have := g i j hi hj (by omega)
        rw [sw_off c.1 (by omega) (by omega) e, sw_off c.1 (by omega) (by omega) (Ne.symm e)] at this
        exact this
  · rintro f p ⟨fa, fb⟩ hp g ih
    have hi : p / 5 < 5 := by omega
    have hj : p % 5 < 5 := Nat.mod_lt _ (by decide)
    have e : p = 5 * (p / 5) + p % 5 := by omega
    refine br_f (nI_ge (b := 25) hp (by decide)) ⟨by decide, nm_r (ym_d5 (by omega : p < 2 ^ 31)) ⟨by decide, nm_r (ym_r5 (by omega : p < 2 ^ 31)) ?_⟩⟩
    have next : (p / 5 < n → p % 5 < n → (o (p / 5) : Int) * ((u (p % 5) : Int) * (ch_tot w (st (p % 5)) : Int)) * (ch_sw w (p / 5) (p % 5) : Int) = (o (p % 5) : Int) * ((u (p / 5) : Int) * (ch_tot w (st (p / 5)) : Int)) * (ch_sw w (p % 5) (p / 5) : Int)) → ∀ i j, i < n → j < n → 5 * i + j < p + 1 → (o i : Int) * ((u j : Int) * (ch_tot w (st j) : Int)) * (ch_sw w i j : Int) = (o j : Int) * ((u i : Int) * (ch_tot w (st i) : Int)) * (ch_sw w j i : Int) := by
      intro h i j hin hjn hl
      by_cases q : 5 * i + j = p
      · have e1 : i = p / 5 := by omega
        have e2 : j = p % 5 := by omega
        rw [e1, e2]
        exact h (by omega) (by omega)
      · exact g i j hin hjn (by omega)
    rcases Nat.lt_or_ge (p / 5) n with hin | hin
    · refine br_f (nI_ge hin (by omega)) ?_
      rcases Nat.lt_or_ge (p % 5) n with hjn | hjn
      · refine br_f (nI_ge hjn (by omega)) (ym_balW c bo A hin hjn (fun ok fa' fb' => ?_) (fun bad fa' fb' => ?_))
        · dsimp only
          exact br_f (by decide) (nm_r (nI_1 p) (ih (fa', fb') (next (fun _ _ => ok))))
        · dsimp only
          refine br_t rfl (h0 (fun ⟨P, Q, b⟩ => bad ?_) fa' fb')
          by_cases eq : p / 5 = p % 5
          · rw [eq]
          · rw [sw_off c.1 hi hj eq, sw_off c.1 hj hi (Ne.symm eq)]
            rcases rv_fin (fun i hi => by have := bo i hi; omega) (fun p q b i hi => c2 p q b i hi trivial) (fun i j hi hj e => c3 i j hi hj trivial trivial e) b hin hjn with z | z
            · rw [z.1, z.2]; simp
            · rw [z.1]
              have l1 : (o (p / 5) : Int) * ((u (p % 5) : Int) * (ch_tot w (st (p % 5)) : Int)) * (w (5 * (p / 5) + p % 5) : Int) = (ch_tot w (st (p % 5)) : Int) * ((o (p / 5) : Int) * (u (p % 5) : Int) * (w (5 * (p / 5) + p % 5) : Int)) := by grind
              rw [l1, z.2]; grind
      · exact br_t (nI_le hjn (by omega)) (nm_r (nI_1 p) (ih (fa, fb) (next (fun _ h => absurd h (by omega)))))
    · exact br_t (nI_le hin (by omega)) (nm_r (nI_1 p) (ih (fa, fb) (next (fun h => absurd h (by omega)))))
theorem ym_rev {post : Int32 → SY → Prop} (c : cr_Y n w a) (h1 : (∃ p q, rv_b n w p q) → ∀ fa' fb' tp' bt', post 1 (nI n, fa', fb', a, up, dn, op, tp', bt', nt, nb)) (h0 : (¬ ∃ p q, rv_b n w p q) → ∀ fa' fb' tp' bt', post 0 (nI n, fa', fb', a, up, dn, op, tp', bt', nt, nb)) : wpY_reversible post (nI n, fa, fb, a, up, dn, op, tp, bt, nt, nb) := by
  have h5 := c.1.2.1
  refine loop_0 (fun f s (q : (Nat → Int64) × (Nat → Int64)) => wY_reversible_2 post (nI n) fa fb f (nI s) a up dn op q.1 q.2 nt nb) (fun s q => ∀ x, x < s → q.1 x = 0) n (tp, bt) (fun x hx => absurd hx (by omega)) ?_ ?_
  · rintro f ⟨tp, bt⟩ g
    refine br_t (nI_le (Nat.le_refl n) (by omega)) ?_
    dsimp only at g ⊢
    refine loop_0 (fun f s (q : Int64 × Int64 × (Nat → Int64) × (Nat → Int64)) => wY_reversible_32 post f (nI s) (nI n) q.1 q.2.1 a up dn op q.2.2.1 q.2.2.2 nt nb)
      (fun s q => ∃ kn : Nat → Prop, (∀ x, x < s → kn x) ∧ ∃ o u st, rv_C n w kn o u st ∧ yr_A n w kn q.2.2.1 q.2.2.2 o u st) n (fa, fb, tp, bt) ?_ ?_ ?_
    · exact ⟨fun _ => False, fun x hx => absurd hx (by omega), fun _ => 0, fun _ => 0, fun _ => 0, rv_C0 n w _ _ _, fun i hi => ⟨fun z => z.elim, fun _ => g i hi⟩⟩
    · rintro f ⟨fa, fb, tp, bt⟩ ⟨kn, all, o, u, st, C, A⟩
      refine br_t (nI_le (Nat.le_refl n) (by omega)) ?_
      dsimp only at A ⊢
      obtain ⟨c1, c2, c3, c4⟩ := C
      have cn : gr_cnt kn n ≤ gr_cnt (fun _ => True) n := gr_cnt_mono (fun _ _ _ => trivial)
      have pw : 9 ^ (gr_cnt kn n - 1) ≤ 9 ^ (gr_cnt (fun _ => True) n - 1) := Nat.pow_le_pow_right (by decide) (by omega)
      refine ym_check c (o := o) (u := u) (st := st) ⟨fun i hi _ => ?_, fun p q b i hi _ => c2 p q b i hi (all i hi), fun i j hi hj _ _ e => c3 i j hi hj (all i hi) (all j hj) e, fun _ _ _ _ _ _ => trivial⟩ (fun i hi => (A i hi).1 (all i hi)) (fun h fa' fb' => h1 h fa' fb' tp bt) (fun h fa' fb' => h0 h fa' fb' tp bt)
      have := c1 i hi (all i hi)
      omega
    · rintro f s ⟨fa, fb, tp, bt⟩ hs ⟨kn, all, o, u, st, C, A⟩ ih
      dsimp only at A
      have es : (nI s).toNatClampNeg = s := nI_clamp (by omega)
      have vs : vp_in (nI s) 5 := vp_in_nI (by omega) (by decide)
      refine br_f (nI_ge hs (by omega)) ⟨vs, ?_⟩
      dsimp only
      rw [es]
      by_cases ks : kn s
      · have b := C.1 s hs ks
        have t1 := ch_tot_pos w s
        have t2 := ch_tot_pos w (st s)
        have os : 0 < (o s : Int) * (ch_tot w s : Int) := Int.mul_pos (by omega) (by omega)
        have us : 0 < (u s : Int) * (ch_tot w (st s) : Int) := Int.mul_pos (by omega) (by omega)
        refine br_f (fun q => by have := (fp_zero us ((A s hs).1 ks)).mp q; omega) (nm_r (nI_1 s) (ih (fa, fb, tp, bt) ⟨kn, fun x hx => ?_, o, u, st, C, A⟩))
        by_cases e : x = s
        · rw [e]; exact ks
        · exact all x (by omega)
      · have I0 := rv_CI C hs ks
        have t1 := ch_tot_pos w s
        refine br_t ((A s hs).2 ks) ⟨vs, nm_e ⟨vs, nm_e ?_⟩⟩
        refine ym_rounds (s := s) c (K := kn) (s0 := s) (kn := fun i => kn i ∨ i = s) I0 ?_ (fun _ _ h => h) (fun fa' fb' tp' bt' kn' sub ex => ?_)
        · intro x hx
          by_cases q : x = s
          · rw [q, pk_uLs, pk_uLs, rv_us, rv_us, rv_us]
            refine ⟨fun _ => fp_eq (by decide) (by omega) ?_ (fp_int (t := 1) (by decide)), fun z => absurd (.inr rfl) z⟩
            omega
          · rw [pk_uLn q, pk_uLn q, rv_un _ _ q, rv_un _ _ q, rv_un _ _ q]
            exact ⟨fun z => (A x hx).1 (z.resolve_right q), fun z => (A x hx).2 (fun y => z (.inl y))⟩
        · obtain ⟨o', u', st', C', A'⟩ := ex
          refine ih (fa', fb', tp', bt') ⟨kn', fun x hx => sub x ?_, o', u', st', C', A'⟩
          by_cases e : x = s
          · exact .inr e
          · exact .inl (all x (by omega))
  · rintro f s ⟨tp, bt⟩ hs g ih
    dsimp only at g
    have es : (nI s).toNatClampNeg = s := nI_clamp (by omega)
    have vs : vp_in (nI s) 5 := vp_in_nI (by omega) (by decide)
    refine br_f (nI_ge hs (by omega)) ⟨vs, nm_e ⟨vs, nm_e (nm_r (nI_1 s) (ih (vp_updL tp (nI s).toNatClampNeg 0, vp_updL bt (nI s).toNatClampNeg 1) ?_))⟩⟩
    intro x hx
    dsimp only
    rw [es]
    by_cases e : x = s
    · rw [e, pk_uLs]
    · rw [pk_uLn e]; exact g x (by omega)
end
theorem i_vc_reversible {k : Nat} {u : SX} {v : SY} (I : i_Rel k u v) (hk : k + 5 ≤ 2561) : wpX_reversible (fun r u' => wpY_reversible (fun r' v' => r' = r ∧ i_Rel (k + 5) u' v') v) u := by
  obtain ⟨n, w, a, su, sy, ov, un, fa, fb, up, dn, op, tp, bt, nt, nb, rfl, rfl, c⟩ := I
  refine xm_rev c (fun h ov' un' => ?_) (fun h ov' un' => ?_)
  · exact ym_rev (cr_XY c) (fun _ _ _ _ _ => ⟨rfl, ir_mk (k + 5) c _ _ _ _ _ _ _ _ _ _ _ _⟩) (fun z => absurd h z)
  · exact ym_rev (cr_XY c) (fun z => absurd z h) (fun _ _ _ _ _ => ⟨rfl, ir_mk (k + 5) c _ _ _ _ _ _ _ _ _ _ _ _⟩)
end
