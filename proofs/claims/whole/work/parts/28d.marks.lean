/-! PURE: least primes, smooth numbers, powers of primes; the reference's marks -/
def bt (x : Int32) (i : Nat) : Bool := x.toBitVec.getLsbD i
theorem b_ext {x y : Int32} (h : ∀ i, i < 32 → bt x i = bt y i) : x = y := Int32.toBitVec_inj.mp (BitVec.eq_of_getLsbD_eq (fun i hi => h i hi))
theorem b_or (x y : Int32) (i : Nat) : bt (x ||| y) i = (bt x i || bt y i) := by unfold bt; rw [Int32.toBitVec_or, BitVec.getLsbD_or]
theorem b_and (x y : Int32) (i : Nat) : bt (x &&& y) i = (bt x i && bt y i) := by unfold bt; rw [Int32.toBitVec_and, BitVec.getLsbD_and]
theorem b_xor (x y : Int32) (i : Nat) : bt (x ^^^ y) i = (bt x i ^^ bt y i) := by unfold bt; rw [Int32.toBitVec_xor, BitVec.getLsbD_xor]
theorem b_big {x : Int32} {i : Nat} (h : 32 ≤ i) : bt x i = false := BitVec.getLsbD_of_ge _ _ h
theorem b_255 (i : Nat) : bt 255 i = decide (i < 8) := by
  rcases Nat.lt_or_ge i 32 with h | h
  · exact (by decide +kernel : ∀ i, i < 32 → bt 255 i = decide (i < 8)) i h
  · rw [b_big h, decide_eq_false (by omega)]
theorem b_65535 (i : Nat) : bt 65535 i = decide (i < 16) := by
  rcases Nat.lt_or_ge i 32 with h | h
  · exact (by decide +kernel : ∀ i, i < 32 → bt 65535 i = decide (i < 16)) i h
  · rw [b_big h, decide_eq_false (by omega)]
theorem b_m1 : ∀ i, i < 32 → bt (-1) i = true := by decide +kernel
theorem b_0 (i : Nat) : bt 0 i = false := BitVec.getLsbD_zero
theorem s_l : ∀ n, n < 32 → ((nI n &&& 31).toBitVec.smod 32).toNat = n := by decide +kernel
theorem s_u : ∀ n, n < 32 → (((nI n).toUInt32 &&& Int32.toUInt32 31).toBitVec % 32).toNat = n := by decide +kernel
theorem b_shl (n : Nat) (hn : n < 32) (x : Int32) {i : Nat} (hi : i < 32) : bt (x <<< (nI n &&& 31)) i = (decide (n ≤ i) && bt x (i - n)) := by
  unfold bt
  rw [Int32.toBitVec_shiftLeft]
  show (x.toBitVec <<< ((nI n &&& 31).toBitVec.smod 32).toNat).getLsbD i = _
  rw [s_l n hn, BitVec.getLsbD_shiftLeft]
  rcases Nat.lt_or_ge i n with h | h
  · simp [h, Nat.not_le.mpr h]
  · simp [hi, h, Nat.not_lt.mpr h]
theorem b_ushr (n : Nat) (hn : n < 32) (x : Int32) (i : Nat) : bt ((x.toUInt32 >>> ((nI n).toUInt32 &&& Int32.toUInt32 31)).toInt32) i = bt x (n + i) := by
  show (x.toUInt32 >>> ((nI n).toUInt32 &&& Int32.toUInt32 31)).toBitVec.getLsbD i = x.toUInt32.toBitVec.getLsbD (n + i)
  rw [UInt32.toBitVec_shiftRight]
  show (x.toUInt32.toBitVec >>> (((nI n).toUInt32 &&& Int32.toUInt32 31).toBitVec % 32).toNat).getLsbD i = _
  rw [s_u n hn, BitVec.getLsbD_ushiftRight]
theorem b_sshr (n : Nat) (hn : n < 32) (x : Int32) {i : Nat} (hi : i < 32) : bt (x >>> (nI n &&& 31)) i = if n + i < 32 then bt x (n + i) else bt x 31 := by
  unfold bt
  rw [Int32.toBitVec_shiftRight]
  show (x.toBitVec.sshiftRight ((nI n &&& 31).toBitVec.smod 32).toNat).getLsbD i = _
  rw [s_l n hn, BitVec.getLsbD_sshiftRight, BitVec.msb_eq_getLsbD_last]
  simp [hi]
theorem b_shl8 (x : Int32) {i : Nat} (hi : i < 32) : bt (x <<< ((8 : Int32) &&& 31)) i = (decide (8 ≤ i) && bt x (i - 8)) := b_shl 8 (by omega) x hi
theorem b_shl16 (x : Int32) {i : Nat} (hi : i < 32) : bt (x <<< ((16 : Int32) &&& 31)) i = (decide (16 ≤ i) && bt x (i - 16)) := b_shl 16 (by omega) x hi
theorem b_shl24 (x : Int32) {i : Nat} (hi : i < 32) : bt (x <<< ((24 : Int32) &&& 31)) i = (decide (24 ≤ i) && bt x (i - 24)) := b_shl 24 (by omega) x hi
theorem b_sshr8 (x : Int32) {i : Nat} (hi : i < 32) : bt (x >>> ((8 : Int32) &&& 31)) i = if 8 + i < 32 then bt x (8 + i) else bt x 31 := b_sshr 8 (by omega) x hi

theorem isLp_self {n : Nat} (h : isP n) : isLp n n := ⟨h, Nat.dvd_refl n, fun d h1 h2 h3 => h.2 d h2 h1 (Nat.mod_eq_zero_of_dvd h3)⟩
theorem s_leastPrime {L n : Nat} {least : Nat → Int32} {Q : Int32 → Prop} (hsv : svOK L least) (hL : L ≤ 200001) (hn : 2 ≤ n) (hnL : n < L) (h : ∀ p, isLp n p → 2 ≤ p → p ≤ n → Q (nI p)) : wX8_leastPrime L least (nI n) Q := by
  unfold wX8_leastPrime
  refine ⟨fun z => absurd z (nI_pos (by omega)), fun _ => pk_lt n L (fun _ => ⟨pk_in n L hnL, ?_⟩) (fun z => by omega)⟩
  rw [nI_clamp (by omega)]
  rintro x rfl
  rcases hsv n hnL with ⟨a1, a2⟩ | ⟨p, a0, a1, a2, a3⟩
  · rw [a1]
    exact pk_le 0 1 (fun _ => pk_le n 1 (fun z => by omega) (fun _ => h n (isLp_self (a2.resolve_left (by omega))) hn (Nat.le_refl n))) (fun z => by omega)
  · rw [a2]
    exact pk_le p 1 (fun z => by omega) (fun _ => h p a3 a0 (by omega))
/-- all primes of n are y at most -/
def sm (n y : Nat) : Prop := ∀ p, isP p → p ∣ n → p ≤ y
theorem s_isSmooth {L n y : Nat} {least : Nat → Int32} {Q : Int32 → Prop} (hsv : svOK L least) (hL : L ≤ 200001) (hn : 1 ≤ n) (hnL : n < L) (hy : y ≤ 200000) (h1 : sm n y → Q 1) (h0 : ¬ sm n y → Q 0) : wX8_isSmooth L least (nI n) (nI y) Q := by
  have sm1 : sm 1 y := fun p hp hd => by have := Nat.le_of_dvd (by omega) hd; have := hp.1; omega
  unfold wX8_isSmooth
  refine ⟨fun x i => ∃ r k : Nat, x = nI r ∧ i = nI k ∧ 1 ≤ r ∧ (sm n y ↔ sm r y) ∧ 2 ^ k * r ≤ n, fun x _ => x.toNatClampNeg, ⟨n, 0, rfl, rfl, hn, Iff.rfl, by rw [Nat.pow_zero, Nat.one_mul]; exact Nat.le_refl n⟩, ?_⟩
  rintro x i ⟨r, k, rfl, rfl, hr, hiff, hb⟩
  have hk := pow_gt (p := 2) (k := k) (m := r) (by omega) (by omega) hr
  have hrn : r ≤ n := Nat.le_trans (Nat.le_mul_of_pos_left r (Nat.pow_pos (by omega))) hb
  refine pk_le 17 k (fun z => h1 (hiff.mpr ?_)) (fun z => pk_le r 1 (fun z2 => h1 (hiff.mpr ?_)) (fun z2 => pk_le r y (fun z3 => h1 (hiff.mpr ?_)) (fun z3 => ?_)))
  · obtain rfl : k = 17 := by omega
    have : r = 1 := by omega
    subst this; exact sm1
  · obtain rfl : r = 1 := by omega
    exact sm1
  · exact fun p _ hd => Nat.le_trans (Nat.le_of_dvd hr hd) z3
  · refine ⟨_, s_leastPrime hsv hL (by omega) (by omega) (fun p hp hp2 hpr => ?_), fun _ h => h⟩
    refine pk_le p y (fun z4 => ⟨nI_ne0 (by omega) (by omega), ?_⟩) (fun z4 => h0 (fun hs => ?_))
    · rw [pk_div (by omega) (by omega) (by omega), nI_1]
      rintro x rfl
      obtain ⟨t, ht⟩ := hp.2.1
      have ht0 : 0 < t := Nat.pos_of_ne_zero (fun e => by subst e; omega)
      have e1 : r / p = t := by rw [ht, Nat.mul_div_cancel_left t (by omega)]
      rw [e1]
      have h2t : 2 * t ≤ p * t := Nat.mul_le_mul_right t hp2
      refine ⟨⟨t, k + 1, rfl, rfl, ht0, hiff.trans ⟨fun hs q hq hd => hs q hq (by rw [ht]; exact Nat.dvd_mul_left_of_dvd hd p), fun hs q hq hd => ?_⟩, ?_⟩, ms_dn (by omega) (by omega)⟩
      · rw [ht] at hd
        rcases isP_mul hq hd with w | w
        · have := isP_ne_dvd hq hp.1 w; omega
        · exact hs q hq w
      · have h3 : 2 ^ k * (2 * t) ≤ 2 ^ k * r := Nat.mul_le_mul_left _ (by omega)
        rw [Nat.pow_succ, Nat.mul_assoc]; omega
    · have := hiff.mp hs p hp.1 hp.2.1; omega
theorem pp_one {p q k j m : Nat} (hp : isP p) (hq : isP q) (hk : 1 ≤ k) (hm : ¬ p ∣ m) (hm0 : 0 < m) (h : q ^ j = p ^ k * m) : p = q ∧ j = k ∧ m = 1 := by
  have hd : p ∣ q ^ j := by
    rw [h]
    exact Nat.dvd_mul_right_of_dvd (by obtain ⟨i, rfl⟩ : ∃ i, k = i + 1 := ⟨k - 1, by omega⟩; rw [Nat.pow_succ]; exact Nat.dvd_mul_left _ _) m
  have e : p = q := isP_ne_dvd hp hq (isP_pow hp hd)
  subst e
  have h1 := congrArg (vp p) h
  have hp1 : ¬ p ∣ 1 := fun z => by have := Nat.le_of_dvd (by omega) z; have := hp.1; omega
  have h2 := vp_pow_mul (p := p) (m := 1) j hp.1 (by omega) hp1
  rw [Nat.mul_one] at h2
  rw [vp_pow_mul k hp.1 hm0 hm, h2] at h1
  subst h1
  have h3 : p ^ j * 1 = p ^ j * m := by rw [Nat.mul_one]; exact h
  exact ⟨rfl, rfl, (Nat.eq_of_mul_eq_mul_left (Nat.pow_pos (by have := hp.1; omega)) h3).symm⟩
theorem s_exponent {L n : Nat} {least : Nat → Int32} {Q : Int32 → Prop} (hsv : svOK L least) (hL : L ≤ 200001) (hn : 2 ≤ n) (hnL : n < L) (h1 : ∀ p k, isP p → 1 ≤ k → k ≤ 17 → n = p ^ k → isLp n p → Q (nI k)) (h0 : (¬ ∃ p k, isP p ∧ 1 ≤ k ∧ n = p ^ k) → Q 0) : wX8_exponent L least (nI n) Q := by
  unfold wX8_exponent
  refine ⟨_, s_leastPrime hsv hL hn hnL (fun p hp hp2 hpn => ?_), fun _ h => h⟩
  refine ⟨fun x i => ∃ m k : Nat, x = nI m ∧ i = nI k ∧ n = p ^ k * m ∧ 0 < m, fun x _ => x.toNatClampNeg, ⟨n, 0, rfl, rfl, by rw [Nat.pow_zero, Nat.one_mul], by omega⟩, ?_⟩
  rintro x i ⟨m, k, rfl, rfl, hnm, hm⟩
  have hk := pow_gt hp2 (show p ^ k * m ≤ 200000 by omega) hm
  have hmn : m ≤ n := by rw [hnm]; exact Nat.le_mul_of_pos_left m (Nat.pow_pos (by omega))
  have fin : ¬ p ∣ m → ((¬ nI m = 1 → (Q 0)) ∧ (nI m = 1 → (Q (nI k)))) := by
    intro hd
    have hk1 : 1 ≤ k := by
      rcases Nat.eq_zero_or_pos k with z | z
      · subst z
        rw [Nat.pow_zero, Nat.one_mul] at hnm
        exact absurd (hnm ▸ hp.2.1) hd
      · exact z
    refine pn_eq m 1 (fun e => h0 ?_) (fun e => h1 p k hp.1 hk1 hk.1 (by rw [hnm, e, Nat.mul_one]) hp)
    rintro ⟨q, j, hq, hj, hqj⟩
    exact e (pp_one hp.1 hq hk1 hd hm (hqj.symm.trans hnm)).2.2
  refine pk_le 17 k (fun z => fin (hk.2 (by omega))) (fun z => ⟨nI_ne0 (by omega) (by omega), ?_⟩)
  rw [pk_rem (by omega) (by omega) (by omega)]
  have hmp := Nat.mod_lt m (show 0 < p by omega)
  refine pn_eq (m % p) 0 (fun e => fin (fun hd => e (Nat.mod_eq_zero_of_dvd hd))) (fun e => ?_)
  rintro x rfl
  obtain ⟨t, rfl⟩ := Nat.dvd_of_mod_eq_zero e
  rw [pk_div (by omega) (by omega) (by omega), Nat.mul_div_cancel_left t (by omega), nI_1]
  have ht : 0 < t := Nat.pos_of_ne_zero (fun z => by subst z; omega)
  have htp : 2 * t ≤ p * t := Nat.mul_le_mul_right t hp2
  exact ⟨⟨t, k + 1, rfl, rfl, by rw [hnm, Nat.pow_succ, Nat.mul_assoc], ht⟩, ms_dn (by omega) (by omega)⟩
/-! the reference's marks -/
theorem b_1 : ∀ i, i < 32 → bt 1 i = decide (i = 0) := by decide +kernel
theorem b_and1 (x : Int32) : (x &&& 1) = 0 ↔ bt x 0 = false := by
  constructor
  · intro h
    have := congrArg (fun y => bt y 0) h
    simp only [b_and, b_0, b_1 0 (by omega)] at this
    simpa using this
  · intro h
    refine b_ext (fun i hi => ?_)
    rw [b_and, b_0, b_1 i hi]
    by_cases e : i = 0
    · subst e; rw [h]; rfl
    · simp [e]
theorem sh5 {n : Nat} (h : n < 2 ^ 31) : nI n >>> ((5 : Int32) &&& 31) = nI (n / 32) := pk_shrN h _ 5 (by decide)
theorem an31 {n : Nat} (h : n < 2 ^ 31) : nI n &&& 31 = nI (n % 32) := pk_andN (k := 5) (by omega) (by decide)
def mb (marks : Nat → Int32) (n : Nat) : Bool := bt (marks (n / 32)) (n % 32)
/-- a mark stands at all that is no prime -/
def mkOK (marks : Nat → Int32) : Prop := ∀ n, n ≤ 200000 → (mb marks n = true ↔ ¬ isP n)
theorem s_isPrimeB {qth qta qli qsi qat qpl qso qva qfa qfp qlf qlp qun qhi qro qar qiS qbl qdr : Int32} {marks : Nat → Int32} {n : Nat} {Q : Int32 → Prop} (hn : n ≤ 200000) (h0 : mb marks n = true → Q 0) (h1 : mb marks n = false → Q 1) : wX11_isPrime qth qta qli qsi qat qpl qso qva qfa qfp qlf qlp qun qhi qro qar qiS qbl qdr marks (nI n) Q := by
  unfold wX11_isPrime
  rw [sh5 (by omega), an31 (by omega), nI_clamp (by omega)]
  refine ⟨vp_in_nI (by omega) (by omega), ?_⟩
  rintro t rfl
  have hb : bt (marks (n / 32) >>> (nI (n % 32) &&& 31)) 0 = mb marks n := by
    rw [b_sshr _ (by omega) _ (by omega), if_pos (by omega), Nat.add_zero]; rfl
  rw [b_and1, hb]
  refine ⟨fun z => h0 (by simpa using z), fun z => h1 z⟩
theorem s_isPrimeM {qth qta qli qsi qat qpl qso qva qfa qfp qlf qlp qun qhi qro qar qiS qbl qdr : Int32} {marks : Nat → Int32} {n : Nat} {Q : Int32 → Prop} (hm : mkOK marks) (hn : n ≤ 200000) (h0 : ¬ isP n → Q 0) (h1 : isP n → Q 1) : wX11_isPrime qth qta qli qsi qat qpl qso qva qfa qfp qlf qlp qun qhi qro qar qiS qbl qdr marks (nI n) Q :=
  s_isPrimeB hn (fun z => h0 ((hm n hn).mp z)) (fun z => h1 (by
    by_cases e : isP n
    · exact e
    · rw [(hm n hn).mpr e] at z; exact absurd z (by simp)))
theorem mb_set {marks : Nat → Int32} {n j : Nat} : mb (upd marks (j / 32) (marks (j / 32) ||| (1 <<< (nI (j % 32) &&& 31)))) n = (mb marks n || decide (n = j)) := by
  have hj := Nat.mod_lt j (show 0 < 32 by omega)
  have hn := Nat.mod_lt n (show 0 < 32 by omega)
  unfold mb
  by_cases e : n / 32 = j / 32
  · rw [e, pk_us, b_or, b_shl _ hj _ hn]
    congr 1
    by_cases e2 : n = j
    · subst e2
      rw [Nat.sub_self, b_1 0 (by omega)]; simp
    · rw [decide_eq_false e2]
      by_cases e3 : j % 32 ≤ n % 32
      · rw [b_1 _ (by omega), decide_eq_false (show ¬ n % 32 - j % 32 = 0 by omega)]; simp
      · rw [decide_eq_false e3]; rfl
  · rw [pk_un e, decide_eq_false (fun z => e (by rw [z]))]; simp
theorem s_sieves0 {qth qta qli qsi qat qpl qso qva qfa qfp qlf qlp qun qhi qro qar qiS qbl qdr : Int32} {marks : Nat → Int32} {Q : Int32 → (Nat → Int32) → Prop} (hi : qiS = 0) (hz : ∀ n, n ≤ 200000 → mb marks n = false) (h : ∀ marks', mkOK marks' → Q 1 marks') : wX11_sieves qth qta qli qsi qat qpl qso qva qfa qfp qlf qlp qun qhi qro qar qiS qbl qdr marks Q := by
  unfold wX11_sieves
  refine ⟨fun _ => ?_, fun z => absurd hi z⟩
  rintro e rfl m1 rfl
  have b3 : ∀ i, i < 32 → bt 3 i = decide (i < 2) := by decide +kernel
  have h0 : ∀ n, n ≤ 200000 → (mb (upd marks 0 (marks 0 ||| 3)) n = true ↔ n < 2) := by
    intro n hn
    have hzn := hz n hn
    unfold mb at hzn ⊢
    by_cases e : n / 32 = 0
    · rw [e] at hzn
      rw [e, pk_us, b_or, hzn, b3 _ (Nat.mod_lt _ (by omega))]
      simp; omega
    · rw [pk_un e, hzn]
      simp; omega
  refine ⟨fun m x => ∃ P : Nat, 2 ≤ P ∧ P ≤ 448 ∧ x = nI P ∧ ∀ n, n ≤ 200000 → (mb m n = true ↔ n < 2 ∨ ∃ q, isP q ∧ q < P ∧ q * q ≤ n ∧ q ∣ n), fun _ x => 449 - x.toNatClampNeg, ⟨2, by omega, by omega, rfl, fun n hn => (h0 n hn).trans ⟨Or.inl, fun z => z.elim id (fun ⟨q, hq, hq2, _⟩ => by have := hq.1; omega)⟩⟩, ?_⟩
  rintro m x ⟨P, hP1, hP2, rfl, hm⟩
  have hPP : P * P ≤ 448 * 448 := Nat.mul_le_mul hP2 hP2
  rw [pk_mul]
  refine pk_lt 200000 (P * P) (fun z => h m (fun n hn => ?_)) (fun z => ?_)
  · rw [hm n hn]
    constructor
    · rintro (w | ⟨q, hq, hql, hqq, hqn⟩) hP
      · have := hP.1; omega
      · have := isP_ne_dvd hq hP hqn
        subst this
        have : q * 2 ≤ q * q := Nat.mul_le_mul_left q hq.1
        have := hq.1
        omega
    · intro w
      by_cases h2 : n < 2
      · exact Or.inl h2
      · refine Or.inr ?_
        obtain ⟨q, hq⟩ := least_div (n := n) (by omega)
        have hs := isLp_sq (p := q) ⟨hq.1, hq.2.1, hq.2.2⟩ w (by omega)
        refine ⟨q, hq.1, ?_, hs.1, hq.2.1⟩
        rcases Nat.lt_or_ge q P with y | y
        · exact y
        · have := Nat.mul_le_mul y y; omega
  · have hP447 := sq_lt z
    have hPm : P ≤ 200000 := by omega
    have hpr : mb m P = true ↔ ¬ isP P := by
      rw [hm P hPm]
      constructor
      · rintro (w | ⟨q, hq, hql, hqq, hqn⟩) hP
        · omega
        · have := isP_ne_dvd hq hP hqn; omega
      · intro w
        refine Or.inr ?_
        obtain ⟨q, hq⟩ := least_div (n := P) (by omega)
        have hs := isLp_sq (p := q) ⟨hq.1, hq.2.1, hq.2.2⟩ w (by omega)
        exact ⟨q, hq.1, hs.2, hs.1, hq.2.1⟩
    refine ⟨_, s_isPrimeB hPm (fun w => ?_) (fun w => ?_), fun _ h => h⟩
    · refine b0 ?_
      rw [nI_1]
      refine ⟨⟨P + 1, by omega, by omega, rfl, fun n hn => (hm n hn).trans ⟨fun y => y.elim Or.inl (fun ⟨q, a, b, c⟩ => Or.inr ⟨q, a, by omega, c⟩), fun y => y.elim Or.inl (fun ⟨q, a, b, c⟩ => Or.inr ⟨q, a, ?_, c⟩)⟩⟩, ms_up (by omega) (by omega)⟩
      have : q ≠ P := fun e => hpr.mp w (e ▸ a)
      omega
    · have hiP : isP P := by
        by_cases e : isP P
        · exact e
        · rw [hpr.mpr e] at w; exact absurd w (by simp)
      refine b1 ?_
      rintro x2 rfl
      refine ⟨fun m2 x => ∃ j : Nat, P ∣ j ∧ P * P ≤ j ∧ j ≤ 201000 ∧ x = nI j ∧ ∀ n, n ≤ 200000 → (mb m2 n = true ↔ mb m n = true ∨ (P ∣ n ∧ P * P ≤ n ∧ n < j)), fun _ x => 201000 - x.toNatClampNeg, ⟨P * P, Nat.dvd_mul_left P P, Nat.le_refl _, by omega, rfl, fun n hn => ⟨Or.inl, fun y => y.elim id (fun a => by omega)⟩⟩, ?_⟩
      rintro m2 x ⟨j, hj1, hj2, hj3, rfl, hm2⟩
      refine pk_lt 200000 j (fun z2 => ?_) (fun z2 => ?_)
      · rw [nI_1]
        refine ⟨⟨P + 1, by omega, by omega, rfl, fun n hn => (hm2 n hn).trans ?_⟩, ms_up (by omega) (by omega)⟩
        rw [hm n hn]
        constructor
        · rintro ((a | ⟨q, a, b, c⟩) | ⟨a, b, c⟩)
          · exact Or.inl a
          · exact Or.inr ⟨q, a, by omega, c⟩
          · exact Or.inr ⟨P, hiP, by omega, b, a⟩
        · rintro (a | ⟨q, a, b, c, d⟩)
          · exact Or.inl (Or.inl a)
          · by_cases e : q = P
            · subst e; exact Or.inr ⟨d, c, by omega⟩
            · exact Or.inl (Or.inr ⟨q, a, by omega, c, d⟩)
      · rw [sh5 (by omega), an31 (by omega), nI_clamp (by omega), nI_add]
        refine ⟨vp_in_nI (by omega) (by omega), ?_⟩
        rintro t rfl m3 rfl x rfl
        refine ⟨⟨j + P, Nat.dvd_add hj1 (Nat.dvd_refl P), by omega, by omega, rfl, fun n hn => ?_⟩, ?_⟩
        · rw [mb_set, Bool.or_eq_true, decide_eq_true_eq, hm2 n hn]
          constructor
          · rintro ((a | ⟨a, b, c⟩) | a)
            · exact Or.inl a
            · exact Or.inr ⟨a, b, by omega⟩
            · subst a; exact Or.inr ⟨hj1, hj2, by omega⟩
          · rintro (a | ⟨a, b, c⟩)
            · exact Or.inl (Or.inl a)
            · rcases Nat.lt_or_ge n j with y | y
              · exact Or.inl (Or.inr ⟨a, b, y⟩)
              · exact Or.inr (mult_gap a hj1 y c)
        · show 201000 - (nI (j + P)).toNatClampNeg < 201000 - (nI j).toNatClampNeg
          rw [nI_clamp (by omega), nI_clamp (by omega)]; omega
theorem s_sieves1 {qth qta qli qsi qat qpl qso qva qfa qfp qlf qlp qun qhi qro qar qiS qbl qdr : Int32} {marks : Nat → Int32} {Q : Int32 → (Nat → Int32) → Prop} (hi : ¬ qiS = 0) (h : Q qiS marks) : wX11_sieves qth qta qli qsi qat qpl qso qva qfa qfp qlf qlp qun qhi qro qar qiS qbl qdr marks Q := by
  unfold wX11_sieves
  exact ⟨fun z => absurd z hi, fun _ => h⟩
