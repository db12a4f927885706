/-! minors of order two, three, four; the tower of fraction-free elimination -/
def ba_d2 (a b c d : Int) : Int := a * d - b * c
def ba_d3 (a b c d e f g h i : Int) : Int := a * ba_d2 e f h i - b * ba_d2 d f g i + c * ba_d2 d e g h
def ba_d4 (a b c d e f g h i j k l m n o p : Int) : Int := a * ba_d3 f g h j k l n o p - b * ba_d3 e g h i k l m o p + c * ba_d3 e f h i j l m n p - d * ba_d3 e f g i j k m n o
def ba_F (N : Nat → Nat → Int) : List Nat → Nat → (Nat → Int) → Int
  | [], s, v => v s
  | [p], s, v => if s = p then v p else ba_d2 (N p p) (v p) (N s p) (v s)
  | [p, q], s, v => if s = p then ba_d2 (v p) (N p q) (v q) (N q q) else if s = q then ba_d2 (N p p) (v p) (N q p) (v q) else ba_d3 (N p p) (N p q) (v p) (N q p) (N q q) (v q) (N s p) (N s q) (v s)
  | [p, q, r], s, v => if s = p then ba_d3 (v p) (N p q) (N p r) (v q) (N q q) (N q r) (v r) (N r q) (N r r) else if s = q then ba_d3 (N p p) (v p) (N p r) (N q p) (v q) (N q r) (N r p) (v r) (N r r) else if s = r then ba_d3 (N p p) (N p q) (v p) (N q p) (N q q) (v q) (N r p) (N r q) (v r) else ba_d4 (N p p) (N p q) (N p r) (v p) (N q p) (N q q) (N q r) (v q) (N r p) (N r q) (N r r) (v r) (N s p) (N s q) (N s r) (v s)
  | [p, q, r, t], s, v => if s = p then ba_d4 (v p) (N p q) (N p r) (N p t) (v q) (N q q) (N q r) (N q t) (v r) (N r q) (N r r) (N r t) (v t) (N t q) (N t r) (N t t) else if s = q then ba_d4 (N p p) (v p) (N p r) (N p t) (N q p) (v q) (N q r) (N q t) (N r p) (v r) (N r r) (N r t) (N t p) (v t) (N t r) (N t t) else if s = r then ba_d4 (N p p) (N p q) (v p) (N p t) (N q p) (N q q) (v q) (N q t) (N r p) (N r q) (v r) (N r t) (N t p) (N t q) (v t) (N t t) else if s = t then ba_d4 (N p p) (N p q) (N p r) (v p) (N q p) (N q q) (N q r) (v q) (N r p) (N r q) (N r r) (v r) (N t p) (N t q) (N t r) (v t) else 0
  | _, _, _ => 0
def ba_D (N : Nat → Nat → Int) : List Nat → Int
  | [] => 1
  | [p] => N p p
  | [p, q] => ba_d2 (N p p) (N p q) (N q p) (N q q)
  | [p, q, r] => ba_d3 (N p p) (N p q) (N p r) (N q p) (N q q) (N q r) (N r p) (N r q) (N r r)
  | [p, q, r, t] => ba_d4 (N p p) (N p q) (N p r) (N p t) (N q p) (N q q) (N q r) (N q t) (N r p) (N r q) (N r r) (N r t) (N t p) (N t q) (N t r) (N t t)
  | _ => 0
theorem ba_i1p (pp pv pq qv qq qp : Int) : pp * (ba_d2 pv pq qv qq) = (ba_d2 pp pq qp qq) * pv - pq * (ba_d2 pp pv qp qv) := by
  simp only [ba_d4, ba_d3, ba_d2]; grobner
theorem ba_i1s (pp pq pv qp qq qv sp sq sv : Int) : pp * (ba_d3 pp pq pv qp qq qv sp sq sv) = (ba_d2 pp pq qp qq) * (ba_d2 pp pv sp sv) - (ba_d2 pp pq sp sq) * (ba_d2 pp pv qp qv) := by
  simp only [ba_d4, ba_d3, ba_d2]; grobner
theorem ba_i2p (pp pq qp qq pv pr qv qr rv rq rr rp : Int) : (ba_d2 pp pq qp qq) * (ba_d3 pv pq pr qv qq qr rv rq rr) = (ba_d3 pp pq pr qp qq qr rp rq rr) * (ba_d2 pv pq qv qq) - (ba_d2 pr pq qr qq) * (ba_d3 pp pq pv qp qq qv rp rq rv) := by
  simp only [ba_d4, ba_d3, ba_d2]; grobner
theorem ba_i2q (pp pq qp qq pv pr qv qr rp rv rr rq : Int) : (ba_d2 pp pq qp qq) * (ba_d3 pp pv pr qp qv qr rp rv rr) = (ba_d3 pp pq pr qp qq qr rp rq rr) * (ba_d2 pp pv qp qv) - (ba_d2 pp pr qp qr) * (ba_d3 pp pq pv qp qq qv rp rq rv) := by
  simp only [ba_d4, ba_d3, ba_d2]; grobner
theorem ba_i2s (pp pq qp qq pr pv qr qv rp rq rr rv sp sq sr sv : Int) : (ba_d2 pp pq qp qq) * (ba_d4 pp pq pr pv qp qq qr qv rp rq rr rv sp sq sr sv) = (ba_d3 pp pq pr qp qq qr rp rq rr) * (ba_d3 pp pq pv qp qq qv sp sq sv) - (ba_d3 pp pq pr qp qq qr sp sq sr) * (ba_d3 pp pq pv qp qq qv rp rq rv) := by
  simp only [ba_d4, ba_d3, ba_d2]; grobner
theorem ba_i3p (pp pq pr qp qq qr rp rq rr pv pt qv qt rv rt tv tq tr tt tp : Int) : (ba_d3 pp pq pr qp qq qr rp rq rr) * (ba_d4 pv pq pr pt qv qq qr qt rv rq rr rt tv tq tr tt) = (ba_d4 pp pq pr pt qp qq qr qt rp rq rr rt tp tq tr tt) * (ba_d3 pv pq pr qv qq qr rv rq rr) - (ba_d3 pt pq pr qt qq qr rt rq rr) * (ba_d4 pp pq pr pv qp qq qr qv rp rq rr rv tp tq tr tv) := by
  simp only [ba_d4, ba_d3, ba_d2]; grobner
theorem ba_i3q (pp pq pr qp qq qr rp rq rr pv pt qv qt rv rt tp tv tr tt tq : Int) : (ba_d3 pp pq pr qp qq qr rp rq rr) * (ba_d4 pp pv pr pt qp qv qr qt rp rv rr rt tp tv tr tt) = (ba_d4 pp pq pr pt qp qq qr qt rp rq rr rt tp tq tr tt) * (ba_d3 pp pv pr qp qv qr rp rv rr) - (ba_d3 pp pt pr qp qt qr rp rt rr) * (ba_d4 pp pq pr pv qp qq qr qv rp rq rr rv tp tq tr tv) := by
  simp only [ba_d4, ba_d3, ba_d2]; grobner
theorem ba_i3r (pp pq pr qp qq qr rp rq rr pv pt qv qt rv rt tp tq tv tt tr : Int) : (ba_d3 pp pq pr qp qq qr rp rq rr) * (ba_d4 pp pq pv pt qp qq qv qt rp rq rv rt tp tq tv tt) = (ba_d4 pp pq pr pt qp qq qr qt rp rq rr rt tp tq tr tt) * (ba_d3 pp pq pv qp qq qv rp rq rv) - (ba_d3 pp pq pt qp qq qt rp rq rt) * (ba_d4 pp pq pr pv qp qq qr qv rp rq rr rv tp tq tr tv) := by
  simp only [ba_d4, ba_d3, ba_d2]; grobner
theorem ba_stepD (N : Nat → Nat → Int) (P : List Nat) (p : Nat) (hl : P.length ≤ 3) (hn : p ∉ P) : ba_D N (P ++ [p]) = ba_F N P p (fun t => N t p) := by
  match P, hl, hn with
  | [], _, _ => rfl
  | [a], _, hn =>
    have h1 : p ≠ a := by simpa using hn
    simp [ba_D, ba_F, h1]
  | [a, b], _, hn =>
    have h1 : p ≠ a ∧ p ≠ b := by simpa using hn
    simp [ba_D, ba_F, h1]
  | [a, b, c], _, hn =>
    have h1 : p ≠ a ∧ p ≠ b ∧ p ≠ c := by simpa using hn
    simp [ba_D, ba_F, h1]
theorem ba_stepP (N : Nat → Nat → Int) (P : List Nat) (p : Nat) (v : Nat → Int) (hl : P.length ≤ 3) (hn : p ∉ P) : ba_F N (P ++ [p]) p v = ba_F N P p v := by
  match P, hl, hn with
  | [], _, _ => simp [ba_F]
  | [a], _, hn =>
    have h1 : p ≠ a := by simpa using hn
    simp [ba_F, h1]
  | [a, b], _, hn =>
    have h1 : p ≠ a ∧ p ≠ b := by simpa using hn
    simp [ba_F, h1]
  | [a, b, c], _, hn =>
    have h1 : p ≠ a ∧ p ≠ b ∧ p ≠ c := by simpa using hn
    simp [ba_F, h1]
theorem ba_step0 (N : Nat → Nat → Int) (p s : Nat) (v : Nat → Int) (hs : s ≠ p) : ba_D N [] * ba_F N [p] s v = ba_F N [] p (fun t => N t p) * ba_F N [] s v - ba_F N [] s (fun t => N t p) * ba_F N [] p v := by
  simp [ba_D, ba_F, hs, ba_d2]; grobner
theorem ba_step1 (N : Nat → Nat → Int) (a p s : Nat) (v : Nat → Int) (hap : p ≠ a) (hs : s ≠ p) : ba_D N [a] * ba_F N [a, p] s v = ba_F N [a] p (fun t => N t p) * ba_F N [a] s v - ba_F N [a] s (fun t => N t p) * ba_F N [a] p v := by
  by_cases ea : s = a
  · subst ea
    simp only [ba_D, ba_F, hap, Ne.symm hap, hs, if_true, if_false, ite_true, ite_false, ne_eq, not_false_eq_true, reduceIte]
    exact ba_i1p (N s s) (v s) (N s p) (v p) (N p p) (N p s)
  simp only [ba_D, ba_F, hap, Ne.symm hap, ea, hs, if_true, if_false, ite_true, ite_false, ne_eq, not_false_eq_true, reduceIte]
  exact ba_i1s (N a a) (N a p) (v a) (N p a) (N p p) (v p) (N s a) (N s p) (v s)
theorem ba_step2 (N : Nat → Nat → Int) (a b p s : Nat) (v : Nat → Int) (hab : b ≠ a) (hap : p ≠ a) (hbp : p ≠ b) (hs : s ≠ p) : ba_D N [a, b] * ba_F N [a, b, p] s v = ba_F N [a, b] p (fun t => N t p) * ba_F N [a, b] s v - ba_F N [a, b] s (fun t => N t p) * ba_F N [a, b] p v := by
  by_cases ea : s = a
  · subst ea
    simp only [ba_D, ba_F, hab, hap, hbp, Ne.symm hab, Ne.symm hap, Ne.symm hbp, hs, if_true, if_false, ite_true, ite_false, ne_eq, not_false_eq_true, reduceIte]
    exact ba_i2p (N s s) (N s b) (N b s) (N b b) (v s) (N s p) (v b) (N b p) (v p) (N p b) (N p p) (N p s)
  by_cases eb : s = b
  · subst eb
    simp only [ba_D, ba_F, hab, hap, hbp, Ne.symm hab, Ne.symm hap, Ne.symm hbp, hs, if_true, if_false, ite_true, ite_false, ne_eq, not_false_eq_true, reduceIte]
    exact ba_i2q (N a a) (N a s) (N s a) (N s s) (v a) (N a p) (v s) (N s p) (N p a) (v p) (N p p) (N p s)
  simp only [ba_D, ba_F, hab, hap, hbp, Ne.symm hab, Ne.symm hap, Ne.symm hbp, ea, eb, hs, if_true, if_false, ite_true, ite_false, ne_eq, not_false_eq_true, reduceIte]
  exact ba_i2s (N a a) (N a b) (N b a) (N b b) (N a p) (v a) (N b p) (v b) (N p a) (N p b) (N p p) (v p) (N s a) (N s b) (N s p) (v s)
theorem ba_step3 (N : Nat → Nat → Int) (a b c p s : Nat) (v : Nat → Int) (hab : b ≠ a) (hac : c ≠ a) (hbc : c ≠ b) (hap : p ≠ a) (hbp : p ≠ b) (hcp : p ≠ c) (hs : s ≠ p) (h4 : s = a ∨ s = b ∨ s = c) : ba_D N [a, b, c] * ba_F N [a, b, c, p] s v = ba_F N [a, b, c] p (fun t => N t p) * ba_F N [a, b, c] s v - ba_F N [a, b, c] s (fun t => N t p) * ba_F N [a, b, c] p v := by
  by_cases ea : s = a
  · subst ea
    simp only [ba_D, ba_F, hab, hac, hbc, hap, hbp, hcp, Ne.symm hab, Ne.symm hac, Ne.symm hbc, Ne.symm hap, Ne.symm hbp, Ne.symm hcp, hs, if_true, if_false, ite_true, ite_false, ne_eq, not_false_eq_true, reduceIte]
    exact ba_i3p (N s s) (N s b) (N s c) (N b s) (N b b) (N b c) (N c s) (N c b) (N c c) (v s) (N s p) (v b) (N b p) (v c) (N c p) (v p) (N p b) (N p c) (N p p) (N p s)
  by_cases eb : s = b
  · subst eb
    simp only [ba_D, ba_F, hab, hac, hbc, hap, hbp, hcp, Ne.symm hab, Ne.symm hac, Ne.symm hbc, Ne.symm hap, Ne.symm hbp, Ne.symm hcp, hs, if_true, if_false, ite_true, ite_false, ne_eq, not_false_eq_true, reduceIte]
    exact ba_i3q (N a a) (N a s) (N a c) (N s a) (N s s) (N s c) (N c a) (N c s) (N c c) (v a) (N a p) (v s) (N s p) (v c) (N c p) (N p a) (v p) (N p c) (N p p) (N p s)
  by_cases ec : s = c
  · subst ec
    simp only [ba_D, ba_F, hab, hac, hbc, hap, hbp, hcp, Ne.symm hab, Ne.symm hac, Ne.symm hbc, Ne.symm hap, Ne.symm hbp, Ne.symm hcp, hs, if_true, if_false, ite_true, ite_false, ne_eq, not_false_eq_true, reduceIte]
    exact ba_i3r (N a a) (N a b) (N a s) (N b a) (N b b) (N b s) (N s a) (N s b) (N s s) (v a) (N a p) (v b) (N b p) (v s) (N s p) (N p a) (N p b) (v p) (N p p) (N p s)
  exact absurd h4 (by simp [ea, eb, ec])
theorem ba_step (N : Nat → Nat → Int) (P : List Nat) (p s : Nat) (v : Nat → Int) (hl : P.length ≤ 3) (hd : P.Nodup) (hn : p ∉ P) (hs : s ≠ p) (h4 : P.length = 3 → s ∈ P) : ba_D N P * ba_F N (P ++ [p]) s v = ba_F N P p (fun t => N t p) * ba_F N P s v - ba_F N P s (fun t => N t p) * ba_F N P p v := by
  match P, hl, hd, hn, h4 with
  | [], _, _, _, _ => exact ba_step0 N p s v hs
  | [a], _, _, hn, _ =>
    have h1 : p ≠ a := by simpa using hn
    exact ba_step1 N a p s v h1 hs
  | [a, b], _, hd, hn, _ =>
    have h1 : p ≠ a ∧ p ≠ b := by simpa using hn
    have h2 : a ≠ b := by simpa using hd
    exact ba_step2 N a b p s v (Ne.symm h2) h1.1 h1.2 hs
  | [a, b, c], _, hd, hn, h4 =>
    have h1 : p ≠ a ∧ p ≠ b ∧ p ≠ c := by simpa using hn
    have h2 : (¬ a = b ∧ ¬ a = c) ∧ ¬ b = c := by simpa using hd
    exact ba_step3 N a b c p s v (Ne.symm h2.1.1) (Ne.symm h2.1.2) (Ne.symm h2.2) h1.1 h1.2.1 h1.2.2 hs (by simpa using h4 rfl)
