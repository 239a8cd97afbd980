/-! PURE: rests, and the tables of powers -/
theorem lI_0 : lI 0 = 0 := by decide +kernel
theorem ms_up {N j : Nat} (h : j < N) (hN : N < 2 ^ 31) : N - (nI (j + 1)).toNatClampNeg < N - (nI j).toNatClampNeg := by rw [nI_clamp (by omega), nI_clamp (by omega)]; omega
theorem b1 {A B : Prop} (a : A) : (¬ (1 : Int32) = 0 → A) ∧ ((1 : Int32) = 0 → B) := ⟨fun _ => a, fun z => absurd z (by decide)⟩
theorem b0 {A B : Prop} (b : B) : (¬ (0 : Int32) = 0 → A) ∧ ((0 : Int32) = 0 → B) := ⟨fun z => absurd rfl z, fun _ => b⟩
theorem c1 {A B : Prop} (a : B) : ((1 : Int32) = 0 → A) ∧ (¬ (1 : Int32) = 0 → B) := ⟨fun z => absurd z (by decide), fun _ => a⟩
theorem c0 {A B : Prop} (b : A) : ((0 : Int32) = 0 → A) ∧ (¬ (0 : Int32) = 0 → B) := ⟨fun _ => b, fun z => absurd rfl z⟩
/-- a comparison with the other order of its two ways -/
theorem pn_eq {x y : Int32} {A B : Prop} (a b : Nat) (f : a ≠ b → A) (g : a = b → B) (hx : x = nI a := by rfl) (hy : y = nI b := by rfl) (ha : a < 2 ^ 31 := by omega) (hb : b < 2 ^ 31 := by omega) : (¬ x = y → A) ∧ (x = y → B) := by
  subst hx hy
  rw [nI_eq ha hb]
  exact ⟨f, g⟩
theorem tmod_lt (a : Int) {m : Int} (hm : 0 < m) : -m < a.tmod m ∧ a.tmod m < m := by
  have h : (a.tmod m).natAbs < m.natAbs := by rw [Int.natAbs_tmod]; exact Nat.mod_lt _ (by omega)
  omega
theorem tmod_fix (a : Int) {m : Int} (hm : 0 < m) : (0 ≤ a.tmod m → a.tmod m = a % m) ∧ (a.tmod m < 0 → a.tmod m + m = a % m) := by
  have h1 := tmod_lt a hm
  have h2 : a = m * a.tdiv m + a.tmod m := (Int.mul_tdiv_add_tmod a m).symm
  refine ⟨fun h => ?_, fun h => ?_⟩
  · have h3 : a % m = (a.tmod m + m * a.tdiv m) % m := by rw [Int.add_comm]; exact congrArg (· % m) h2
    rw [h3, Int.add_mul_emod_self_left, Int.emod_eq_of_lt h h1.2]
  · have h3 : a % m = ((a.tmod m + m) + m * (a.tdiv m - 1)) % m := by
      refine congrArg (· % m) (h2.trans ?_)
      rw [Int.mul_sub, Int.mul_one]; omega
    rw [h3, Int.add_mul_emod_self_left, Int.emod_eq_of_lt (by omega) (by omega)]
theorem i64_rem (x : Int64) {m : Nat} (h0 : 0 < m) (h1 : m < 2 ^ 31) : x - x / lN m * lN m = lI (x.toInt.tmod m) := by
  have hm : (lN m).toInt = (m : Int) := lN_toInt h1
  have h2 := tmod_lt x.toInt (m := (m : Int)) (by omega)
  have h3 : x.toInt - x.toInt.tdiv m * m = x.toInt.tmod m := by
    have := Int.mul_tdiv_add_tmod x.toInt (m : Int)
    rw [Int.mul_comm] at this
    omega
  refine Int64.toInt_inj.mp ?_
  rw [lI_toInt (by omega) (by omega), Int64.toInt_sub, Int64.toInt_mul, Int64.toInt_div, hm]
  simp only [Int.sub_bmod_bmod, Int.bmod_mul_bmod, Int.bmod_sub_bmod]
  rw [h3]
  exact Int.bmod_eq_of_le (by omega) (by omega)
theorem s_rest {bo se fu : Int32} {m : Nat} {x : Int64} {Q : Int32 → Prop} (hm : 2 ≤ m) (hm2 : m ≤ 1000003) (h : Q (nI (x.toInt % (m : Int)).toNat)) : wX3_rest bo (nI m) se fu x Q := by
  unfold wX3_rest
  have hl : (nI m).toInt64 = lN m := nI_l (by omega)
  refine ⟨fun _ => ⟨?_, ?_⟩, fun z => absurd (nI_le hm (by omega)) z⟩
  · rw [hl]; intro z
    have := (lN_eq (a := m) (b := 0) (by omega) (by omega)).mp z
    omega
  · rintro t rfl
    rw [hl, i64_rem x (by omega) (by omega), lI_i]
    have h2 := tmod_lt x.toInt (m := (m : Int)) (by omega)
    have h3 := tmod_fix x.toInt (m := (m : Int)) (by omega)
    have h4 : (iI (x.toInt.tmod m)).toInt = x.toInt.tmod m := iI_toInt (by omega) (by omega)
    refine ⟨fun z => ?_, fun z => ?_⟩
    · have h5 : 0 ≤ x.toInt.tmod m := by rw [← h4]; exact Int32.le_iff_toInt_le.mp z
      have h6 : iI (x.toInt.tmod m) = nI (x.toInt % (m : Int)).toNat := by
        rw [iI_N, ← h3.1 h5]; congr 1; omega
      rw [h6]; exact h
    · have h5 : x.toInt.tmod m < 0 := by
        rcases Int.lt_or_le (x.toInt.tmod m) 0 with q | q
        · exact q
        · exact absurd (Int32.le_iff_toInt_le.mpr (by rw [h4]; exact q)) z
      have h6 : iI (x.toInt.tmod m) + nI m = nI (x.toInt % (m : Int)).toNat := by
        have := h3.2 h5
        rw [iI_N, iI_N, iI_add, this]; congr 1; omega
      rw [h6]; exact h
theorem s_restM {qth qta qli qsi qat qpl qso qva qfa qfp qlf qlp qun qhi qro qar qiS qbl qdr : Int32} {sF : Nat → Int32} {m : Nat} {x : Int64} {Q : Int64 → Prop} (hs : sF 1 = nI m) (hm : 2 ≤ m) (hm2 : m ≤ 1000003) (h : Q (lN (x.toInt % (m : Int)).toNat)) : wX11_rest qth qta qli qsi qat qpl qso qva qfa qfp qlf qlp qun qhi qro qar qiS qbl qdr sF x Q := by
  unfold wX11_rest
  have hl : (sF 1).toInt64 = lN m := by rw [hs]; exact nI_l (by omega)
  refine ⟨?_, ?_⟩
  · rw [hl]; intro z
    have := (lN_eq (a := m) (b := 0) (by omega) (by omega)).mp z
    omega
  · rintro t rfl
    rw [hl, i64_rem x (by omega) (by omega)]
    have h2 := tmod_lt x.toInt (m := (m : Int)) (by omega)
    have h3 := tmod_fix x.toInt (m := (m : Int)) (by omega)
    have h4 : (lI (x.toInt.tmod m)).toInt = x.toInt.tmod m := lI_toInt (by omega) (by omega)
    refine ⟨fun z => ?_, fun z => ?_⟩
    · have h5 : 0 ≤ x.toInt.tmod m := by rw [← h4]; exact Int64.le_iff_toInt_le.mp ((lg_cmp_ge _ _).mp z)
      have h6 : lI (x.toInt.tmod m) = lN (x.toInt % (m : Int)).toNat := by
        rw [lI_N, ← h3.1 h5]; congr 1; omega
      rw [h6]; exact h
    · have h5 : x.toInt.tmod m < 0 := by
        rcases Int.lt_or_le (x.toInt.tmod m) 0 with q | q
        · exact q
        · exact absurd ((lg_cmp_ge _ _).mpr (Int64.le_iff_toInt_le.mpr (by rw [h4]; exact q))) z
      have h6 : lI (x.toInt.tmod m) + lN m = lN (x.toInt % (m : Int)).toNat := by
        have := h3.2 h5
        rw [lI_N, lI_N, lI_add, this]; congr 1; omega
      rw [h6]; exact h
theorem s_crossed {cells : Nat → Int32} {o u fr k : Nat} {X Y : Nat → Nat} {Q : Int64 → Prop} (hX : ∀ j, j ≤ k → fr ≤ j → cells (o + j) = nI (X j)) (hY : ∀ j, j ≤ k - fr → cells (u + j) = nI (Y j)) (bX : ∀ j, X j < 2 ^ 31) (bY : ∀ j, Y j < 2 ^ 31) (hk : k ≤ 17) (hf : fr ≤ k + 1) (ho : o + k < 216) (hu : u + k < 216) (h : Q (lI (fb_si (fun j => (X (fr + j) : Int) * (Y (k - (fr + j)) : Int)) (k + 1 - fr)))) : wX4_crossed cells (nI o) (nI u) (nI fr) (nI k) Q := by
  unfold wX4_crossed
  refine ⟨fun x5 x7 => ∃ j : Nat, j ≤ k + 1 - fr ∧ x7 = nI (fr + j) ∧ x5 = lI (fb_si (fun j => (X (fr + j) : Int) * (Y (k - (fr + j)) : Int)) j), fun _ x7 => 18 - x7.toNatClampNeg, ⟨0, by omega, by rw [Nat.add_zero], lI_0.symm⟩, ?_⟩
  rintro x5 x7 ⟨j, hj, rfl, rfl⟩
  refine pk_lt k (fr + j) (fun z => ?_) (fun z => ?_)
  · obtain rfl : j = k + 1 - fr := by omega
    exact h
  · rw [nI_add, nI_add, pk_sub (by omega)]
    refine ⟨vp_in_nI (by omega) (by omega), vp_in_nI (by omega) (by omega), ?_⟩
    rw [nI_clamp (by omega), nI_clamp (by omega), hX _ (by omega) (by omega), show u + k - (fr + j) = u + (k - (fr + j)) by omega, hY _ (by omega), lI_nI (bX _), lI_nI (bY _), lI_mul]
    rintro t rfl x rfl
    rw [lI_add, nI_1]
    exact ⟨⟨j + 1, by omega, rfl, rfl⟩, ms_up (by omega) (by omega)⟩
theorem mx0 (x : Int32) : (if x < 0 then 0 else x) = nI x.toNatClampNeg := by
  by_cases h : x < 0
  · rw [if_pos h]
    have : x.toNatClampNeg = 0 := by
      have h1 : x.toInt < 0 := by
        have := Int32.lt_iff_toInt_lt.mp h
        rw [show (0 : Int32).toInt = 0 from by decide] at this
        exact this
      rw [Int32.toNatClampNeg]
      omega
    rw [this]; rfl
  · rw [if_neg h]
    obtain ⟨j, hj, rfl⟩ := nI_of h
    rw [nI_clamp hj]
theorem s_ownCell {bo mo se fu : Int32} {N : Nat → Int32} {g p i : Nat} {Q : Int64 → Prop} (hg : g < 12) (hp : p < 2 ^ 31) (hi : 1 ≤ i) (hi2 : i ≤ 17) (h : Q (lI (if i ≤ 6 then (N (12 * g + 2 * (i - 1))).toInt + (N (12 * g + 2 * (i - 1) + 1)).toInt * (p : Int) else 0))) : wX4_ownCell bo mo se fu N (nI g) (nI p) (nI i) Q := by
  unfold wX4_ownCell
  refine ⟨_, ?_, fun _ h => h⟩
  unfold wX10_isOwnPower
  refine pk_lt i 1 (fun z => by omega) (fun _ => pk_lt 6 i (fun z => ?_) (fun z => ?_))
  · refine b0 ?_
    rw [if_neg (by omega), lI_0] at h
    exact h
  · refine b1 ⟨_, ?_, fun _ h => h⟩
    unfold wX3_cell
    rw [if_pos z] at h
    have e : ((nI g * 6 + nI i) - 1) * 2 = nI (12 * g + 2 * (i - 1)) := by
      rw [show (6 : Int32) = nI 6 from rfl, show (1 : Int32) = nI 1 from rfl, show (2 : Int32) = nI 2 from rfl, pk_mul, nI_add, pk_sub (by omega), pk_mul]
      congr 1; omega
    rw [e, nI_1]
    refine ⟨vp_in_nI (by omega) (by omega), vp_in_nI (by omega) (by omega), ?_⟩
    rintro t rfl
    rw [nI_clamp (by omega), nI_clamp (by omega), lI_32, lI_32, lI_nI hp, lI_mul, lI_add]
    exact h
theorem s_sign {c : Int32} {p i : Nat} {Q : Int32 → Prop} (hp : p < 2 ^ 31) (hi : i ≤ 17) (h : Q (iI (sgn (c == 1) p i))) : wX4_sign c (nI p) (nI i) Q := by
  unfold wX4_sign
  rw [show (4 : Int32) - 1 = nI 3 from rfl, show (3 : Int32) - 1 = nI 2 from rfl]
  have e4 : nI p - nI p / 4 * 4 = nI (p % 4) := pk_rem (d := 4) hp (by omega) (by omega)
  have e3 : nI p - nI p / 3 * 3 = nI (p % 3) := pk_rem (d := 3) hp (by omega) (by omega)
  have e2 : nI i - nI i / 2 * 2 = nI (i % 2) := pk_rem (d := 2) (by omega) (by omega) (by omega)
  rw [e4, e3, e2]
  have key : ∀ (by3 : Bool) (r : Nat), p % (if by3 then 3 else 4) = r → r < 4 → ∀ q : Nat, q = (if by3 then 2 else 3) → Q (iI (sgn by3 p i)) → ∀ x : Int32, x = nI r → ((¬ x = 1 → ((x = nI q → ((¬ nI (i % 2) = 0 → (Q (-1))) ∧ (nI (i % 2) = 0 → (Q 1)))) ∧ (¬ x = nI q → (Q 0)))) ∧ (x = 1 → (Q 1))) := by
    intro by3 r hr hr4 q hq hQ x hx
    subst hx
    have hq4 : q < 4 := by rw [hq]; split <;> omega
    refine pn_eq r 1 (fun a => pk_eq r q (fun b => pn_eq (i % 2) 0 (fun d => ?_) (fun d => ?_)) (fun b => ?_)) (fun a => ?_)
    · rw [sgn, hr, if_neg a, if_pos (by rw [← hq]; exact b), if_neg (by omega)] at hQ; exact hQ
    · rw [sgn, hr, if_neg a, if_pos (by rw [← hq]; exact b), if_pos d] at hQ; exact hQ
    · rw [sgn, hr, if_neg a, if_neg (by rw [← hq]; exact b)] at hQ; exact hQ
    · rw [sgn, hr, if_pos a] at hQ; exact hQ
  refine ⟨fun hc => ?_, fun hc => ?_⟩
  · rw [show (c == 1) = false from by simp [hc]] at h
    exact fun x hx => key false (p % 4) rfl (by omega) 3 rfl h x hx
  · rw [show (c == 1) = true from by simp [hc]] at h
    exact fun x hx => key true (p % 3) rfl (by omega) 2 rfl h x hx
theorem s_signM {p i b : Nat} {c : Bool} {Q : Int32 → Prop} (hp : p < 2 ^ 31) (hi : i ≤ 17) (hb : b = if c then 3 else 4) (h : Q (iI (sgn c p i))) : wX11_sign (nI p) (nI i) (nI b) Q := by
  unfold wX11_sign
  have hb4 : b = 3 ∨ b = 4 := by rw [hb]; cases c <;> simp
  refine ⟨nI_ne0 (by omega) (by omega), ?_⟩
  rw [pk_rem hp (by omega) (by omega), show (1 : Int32) = nI 1 from rfl, pk_sub (by omega), show nI i - nI i / 2 * 2 = nI (i % 2) from pk_rem (d := 2) (by omega) (by omega) (by omega)]
  rintro x rfl
  have hq : b - 1 = if c then 2 else 3 := by rw [hb]; cases c <;> rfl
  have hr4 : p % b < 4 := by have := Nat.mod_lt p (show 0 < b by omega); omega
  rw [sgn, ← hb, ← hq] at h
  refine pn_eq (p % b) 1 (fun a => pk_eq (p % b) (b - 1) (fun d => pn_eq (i % 2) 1 (fun e => ?_) (fun e => ?_)) (fun d => ?_)) (fun a => ?_)
  · rw [if_neg a, if_pos d, if_pos (by omega)] at h; exact h
  · rw [if_neg a, if_pos d, if_neg (by omega)] at h; exact h
  · rw [if_neg a, if_neg d] at h; exact h
  · rw [if_pos a] at h; exact h
