/-! PURE: tables of powers in the class and in the reference -/
theorem em_pow {M p k : Nat} (h : 1 ≤ k) : p ^ (k - 1) % M * p % M = p ^ k % M := by
  obtain ⟨j, rfl⟩ : ∃ j, k = j + 1 := ⟨k - 1, by omega⟩
  rw [mm_l, Nat.add_sub_cancel, Nat.pow_succ]
theorem z_sh : ∀ n, n < 32 → ((nI n &&& 31).toBitVec.smod 32).toNat = n := by decide
theorem z_bit {m j : Nat} (hm : m < 2 ^ 31) (hj : j < 31) : ((nI m >>> (nI j &&& 31)) &&& 1) = 0 ↔ m.testBit j = false := by
  have h1 : m / 2 ^ j < 2 ^ 31 := Nat.lt_of_le_of_lt (Nat.div_le_self _ _) hm
  rw [pk_shrN hm _ j (z_sh j (by omega)), pk_andN (k := 1) (by omega) (by decide), Nat.testBit_eq_decide_div_mod_eq]
  have h2 : m / 2 ^ j % 2 ^ 1 < 2 := Nat.mod_lt _ (by omega)
  rw [show (0 : Int32) = nI 0 from rfl, nI_eq (by omega) (by omega), decide_eq_false_iff_not]
  omega
/-- which functions a function needs -/
def ndp (F : Nat) (K A B needs : Nat → Int32) : Prop :=
  ∀ f, f < F → ∃ m : Nat, m < 4096 ∧ needs f = nI m ∧ m.testBit f = true ∧ ∀ g, m.testBit g = true → g ≤ f ∧ ((K g = 2 ∨ K g = 3 ∨ K g = 4 ∨ K g = 5) → m.testBit (A g).toNatClampNeg = true) ∧ ((K g = 2 ∨ K g = 4) → m.testBit (B g).toNatClampNeg = true)
theorem emod_sub_e (a b M : Int) : (a % M - b % M) % M = (a - b) % M := (Int.sub_emod a b M).symm
theorem emod_add_l (a b M : Int) : (a % M + b) % M = (a + b) % M := Int.emod_add_emod a M b
theorem emod_add_r (a b M : Int) : (a + b % M) % M = (a + b) % M := Int.add_emod_emod a b M
theorem natmod_cast (a M : Nat) : ((a % M : Nat) : Int) = (a : Int) % (M : Int) := Int.natCast_emod a M
theorem ite3 (c d e : Prop) [Decidable c] [Decidable d] [Decidable e] : (if c then (1 : Int) else if d then (if e then 1 else -1) else 0) = 1 ∨ (if c then (1 : Int) else if d then (if e then 1 else -1) else 0) = 0 ∨ (if c then (1 : Int) else if d then (if e then 1 else -1) else 0) = -1 := by
  by_cases hc : c <;> by_cases hd : d <;> by_cases he : e <;> simp [hc, hd, he]
theorem sgn_c (b : Bool) (p k : Nat) : sgn b p k = 1 ∨ sgn b p k = 0 ∨ sgn b p k = -1 := ite3 _ _ _
theorem s_knownCell {P cells : Nat → Int32} {T : Nat → Nat → Nat} {K A B C N : Nat → Int32} {M p g i : Nat} {Q : Int64 → Prop} (hM : 2 ≤ M) (hM2 : M ≤ 1000003) (hg : g < 12) (hi : 1 ≤ i) (hi2 : i ≤ 17) (hP : ∀ j, j ≤ i → P j = nI (p ^ j % M)) (hs : ∀ j, j < i → cells (18 * g + j) = nI (T g j)) (hT : ∀ g j, T g j < M) (hk1 : ¬ K g = 1) (hk2 : ¬ K g = 2) (hk3 : ¬ K g = 3) (hk4 : ¬ K g = 4) (hk5 : ¬ K g = 5) (h : ∀ z : Int, z % (M : Int) = cellV K A B C N p T g i % (M : Int) → -4611686018427387904 < z → z < 4611686018427387904 → Q (lI z)) : wX4_knownCell P cells (nI g) (nI i) Q := by
  have hb : ∀ j, p ^ j % M < M := fun j => Nat.mod_lt _ (by omega)
  unfold cellV at h
  rw [if_neg hk1, if_neg hk2, if_neg hk3, if_neg hk4, if_neg hk5] at h
  unfold wX4_knownCell
  refine pk_eq g 1 (fun a => ⟨pk_in i 18 (by omega), ?_⟩) (fun a => pk_eq g 2 (fun b => ?_) (fun b => pk_eq g 3 (fun c => ⟨pk_in i 18 (by omega), ?_⟩) (fun c => pk_eq g 4 (fun d => ?_) (fun d => pk_eq g 5 (fun e => ?_) (fun e => ?_)))))
  · rw [if_pos a] at h
    have := hb i
    rw [nI_clamp (by omega), hP i (by omega), lI_nI (by omega)]
    exact h _ (by rw [natmod_cast, Int.emod_emod]) (by omega) (by omega)
  · rw [if_neg a, if_pos b] at h
    refine pn_eq i 1 (fun e => ?_) (fun e => ?_)
    · have := h 0 (by rw [if_neg e]) (by omega) (by omega)
      exact this
    · have := h (-1) (by rw [if_pos e]) (by omega) (by omega)
      exact this
  · rw [if_neg a, if_neg b, if_pos c] at h
    have := hb i
    have := hb (i - 1)
    rw [show (1 : Int32) = nI 1 from rfl, pk_sub hi]
    refine ⟨vp_in_nI (by omega) (by omega), ?_⟩
    rw [nI_clamp (by omega), nI_clamp (by omega), hP i (by omega), hP (i - 1) (by omega), iI_N, iI_N, iI_sub, iI_l (by omega) (by omega)]
    exact h _ (by rw [natmod_cast, natmod_cast, emod_sub_e]) (by omega) (by omega)
  · rw [if_neg a, if_neg b, if_neg c, if_pos d] at h
    rw [nI_1, lI_nI (by omega)]
    exact h _ (by rw [Int.natCast_add]; rfl) (by omega) (by omega)
  · rw [if_neg a, if_neg b, if_neg c, if_neg d, if_pos e] at h
    have h1 := hb i
    have h2 := hT g (i - 1)
    rw [show nI g * 18 + nI i - 1 = nI (18 * g + (i - 1)) from by rw [show (18 : Int32) = nI 18 from rfl, show (1 : Int32) = nI 1 from rfl, pk_mul, nI_add, pk_sub (by omega)]; congr 1; omega]
    refine ⟨vp_in_nI (by omega) (by omega), pk_in i 18 (by omega), ?_⟩
    rintro t rfl
    rw [nI_clamp (by omega), nI_clamp (by omega), hs (i - 1) (by omega), hP i (by omega), nI_add, lI_nI (by omega)]
    exact h _ (by rw [Int.natCast_add, natmod_cast, emod_add_r]) (by omega) (by omega)
  · rw [if_neg a, if_neg b, if_neg c, if_neg d, if_neg e] at h
    exact h 1 rfl (by omega) (by omega)
theorem si_bound {X Y : Nat → Nat} {M : Nat} (hX : ∀ j, X j < M) (hY : ∀ j, Y j < M) (hM2 : M ≤ 1000003) (u v : Nat → Nat) (n : Nat) (hn : n ≤ 18) : -4611686018427387904 < fb_si (fun j => (X (u j) : Int) * (Y (v j) : Int)) n ∧ fb_si (fun j => (X (u j) : Int) * (Y (v j) : Int)) n < 4611686018427387904 := by
  have h := fb_si_bound (f := fun j => (X (u j) : Int) * (Y (v j) : Int)) (c := 1000006000009) (by omega) (n := n) (fun k _ => by
    have h1 := hX (u k)
    have h2 := hY (v k)
    have h3 : X (u k) * Y (v k) ≤ 1000003 * 1000003 := Nat.mul_le_mul (by omega) (by omega)
    have h4 : (X (u k) : Int) * (Y (v k) : Int) = ((X (u k) * Y (v k) : Nat) : Int) := (Int.natCast_mul _ _).symm
    show _ ≤ (X (u k) : Int) * (Y (v k) : Int) ∧ (X (u k) : Int) * (Y (v k) : Int) ≤ _
    rw [h4]; omega)
  omega
theorem s_cellOf {bo mo se fu : Int32} {P cells : Nat → Int32} {T : Nat → Nat → Nat} {K A B C N : Nat → Int32} {M p g i F : Nat} {Q : Int64 → Prop} (hw : wfp F K A B) (hF : F ≤ 12) (hM : 2 ≤ M) (hM2 : M ≤ 1000003) (hg : g < F) (hi : 1 ≤ i) (hi2 : i ≤ 17) (hp : p ≤ 200003) (hP : ∀ j, j ≤ i → P j = nI (p ^ j % M)) (ha : (K g = 2 ∨ K g = 3 ∨ K g = 4 ∨ K g = 5) → ∀ j, j ≤ i → cells (18 * (A g).toNatClampNeg + j) = nI (T (A g).toNatClampNeg j)) (hb : (K g = 2 ∨ K g = 4) → ∀ j, j ≤ i → cells (18 * (B g).toNatClampNeg + j) = nI (T (B g).toNatClampNeg j)) (hs : ∀ j, j < i → cells (18 * g + j) = nI (T g j)) (hT : ∀ g j, T g j < M) (h : ∀ z : Int, z % (M : Int) = cellV K A B C N p T g i % (M : Int) → -4611686018427387904 < z → z < 4611686018427387904 → Q (lI z)) : wX4_cellOf bo mo se fu A B K N cells C P (nI g) (nI p) (nI i) Q := by
  have hT2 : ∀ g j, T g j < 2 ^ 31 := fun g j => by have := hT g j; omega
  unfold wX4_cellOf
  refine ⟨pk_in g 12 (by omega), ?_⟩
  rw [nI_clamp (by omega), mx0, mx0]
  rintro _ rfl _ rfl _ rfl _ rfl
  rw [show (18 : Int32) = nI 18 from rfl, pk_mul, pk_mul, pk_mul, Nat.mul_comm _ 18, Nat.mul_comm _ 18, Nat.mul_comm g 18]
  refine br_c (fun h1 => ?_) (fun h1 => br_c (fun h2 => ?_) (fun h2 => br_c (fun h3 => ?_) (fun h3 => br_c (fun h4 => ?_) (fun h4 => br_c (fun h5 => ?_) (fun h5 => ?_)))))
  · refine ⟨_, s_ownCell (by omega) (by omega) hi hi2 ?_, fun _ h => h⟩
    have hN : ∀ j, -2147483648 ≤ (N j).toInt ∧ (N j).toInt < 2147483648 := fun j => fb_rng _
    refine h _ (by unfold cellV; rw [if_pos h1]) ?_ ?_
    · split
      · have h6 := hN (12 * g + 2 * (i - 1)); have h7 := hN (12 * g + 2 * (i - 1) + 1)
        have : -(2147483648 * 200003) ≤ (N (12 * g + 2 * (i - 1) + 1)).toInt * (p : Int) := by
          have h8 : (-2147483648 : Int) * (p : Int) ≤ (N (12 * g + 2 * (i - 1) + 1)).toInt * (p : Int) := Int.mul_le_mul_of_nonneg_right h7.1 (by omega)
          omega
        omega
      · omega
    · split
      · have h6 := hN (12 * g + 2 * (i - 1)); have h7 := hN (12 * g + 2 * (i - 1) + 1)
        have : (N (12 * g + 2 * (i - 1) + 1)).toInt * (p : Int) ≤ 2147483648 * 200003 := by
          have h8 : (N (12 * g + 2 * (i - 1) + 1)).toInt * (p : Int) ≤ 2147483648 * (p : Int) := Int.mul_le_mul_of_nonneg_right (by omega) (by omega)
          omega
        omega
      · omega
  · have hA := (hw g hg).1 (Or.inl h2)
    have hB := (hw g hg).2 (Or.inl h2)
    refine ⟨_, s_crossed (fr := 0) (X := T (A g).toNatClampNeg) (Y := T (B g).toNatClampNeg) (fun j hj _ => ha (Or.inl h2) j hj) (fun j hj => hb (Or.inl h2) j (by omega)) (hT2 _) (hT2 _) hi2 (by omega) (by omega) (by omega) ?_, fun _ h => h⟩
    have hsb := si_bound (hT (A g).toNatClampNeg) (hT (B g).toNatClampNeg) hM2 (fun j => 0 + j) (fun j => i - (0 + j)) (i + 1 - 0) (by omega)
    refine h _ ?_ hsb.1 hsb.2
    unfold cellV
    rw [if_neg h1, if_pos h2]
    simp only [Nat.zero_add, Nat.sub_zero]
  · have hA := (hw g hg).1 (Or.inr (Or.inl h3))
    refine ⟨_, s_crossed (fr := 1) (X := T (A g).toNatClampNeg) (Y := T g) (fun j hj _ => ha (Or.inr (Or.inl h3)) j hj) (fun j hj => hs j (by omega)) (hT2 _) (hT2 _) hi2 (by omega) (by omega) (by omega) ?_, fun _ h => h⟩
    have hsb := si_bound (hT (A g).toNatClampNeg) (hT g) hM2 (fun j => 1 + j) (fun j => i - (1 + j)) (i + 1 - 1) (by omega)
    rw [lI_neg]
    refine h _ ?_ (by omega) (by omega)
    unfold cellV
    rw [if_neg h1, if_neg h2, if_pos h3]
    simp only [Nat.add_comm 1, Nat.add_sub_cancel]
  · have hA := (hw g hg).1 (Or.inr (Or.inr (Or.inl h4)))
    have hB := (hw g hg).2 (Or.inr h4)
    rw [nI_add, nI_add]
    refine ⟨vp_in_nI (by omega) (by omega), vp_in_nI (by omega) (by omega), ?_⟩
    rintro t rfl
    rw [nI_clamp (by omega), nI_clamp (by omega), ha (Or.inr (Or.inr (Or.inl h4))) i (by omega), hb (Or.inr h4) i (by omega), lI_nI (hT2 _ _), lI_nI (hT2 _ _), lI_mul]
    have h5 := hT (A g).toNatClampNeg i
    have h6 := hT (B g).toNatClampNeg i
    have h7 : T (A g).toNatClampNeg i * T (B g).toNatClampNeg i ≤ 1000003 * 1000003 := Nat.mul_le_mul (by omega) (by omega)
    have h8 := Int.natCast_mul (T (A g).toNatClampNeg i) (T (B g).toNatClampNeg i)
    refine h _ ?_ (by omega) (by omega)
    unfold cellV
    rw [if_neg h1, if_neg h2, if_neg h3, if_pos h4]
  · have hA := (hw g hg).1 (Or.inr (Or.inr (Or.inr h5)))
    rw [nI_add]
    refine ⟨vp_in_nI (by omega) (by omega), _, s_sign (by omega) hi2 ?_, fun _ h => h⟩
    have h5b := hT (A g).toNatClampNeg i
    have hsg := sgn_c (C g == 1) p i
    rw [nI_clamp (by omega), ha (Or.inr (Or.inr (Or.inr h5))) i (by omega), lI_nI (hT2 _ _), iI_l (by omega) (by omega), lI_mul]
    have hcell : cellV K A B C N p T g i = (T (A g).toNatClampNeg i : Int) * sgn (C g == 1) p i := by
      unfold cellV
      rw [if_neg h1, if_neg h2, if_neg h3, if_neg h4, if_pos h5]
    refine h _ (by rw [hcell]) ?_ ?_
    · rcases hsg with e | e | e <;> rw [e] <;> omega
    · rcases hsg with e | e | e <;> rw [e] <;> omega
  · exact ⟨_, s_knownCell hM hM2 (by omega) hi hi2 hP hs hT h1 h2 h3 h4 h5 h, fun _ h => h⟩
theorem has_y {bo mo se : Int32} {F j : Nat} {Q : Int32 → Prop} (hF : F < 2 ^ 31) (hj : j < F) (h : Q 1) : wX3_has bo mo se (nI F) (nI j) Q := by
  unfold wX3_has
  exact ⟨fun z => absurd z (nI_pos (by omega)), fun _ => ⟨fun z => absurd z (nI_ge hj hF), fun _ => h⟩⟩
theorem has_n {bo mo se f : Int32} {F : Nat} {Q : Int32 → Prop} (hn : ∀ j, j < F → f ≠ nI j) (h : Q 0) : wX3_has bo mo se (nI F) f Q := by
  unfold wX3_has
  refine ⟨fun _ => h, fun z => ⟨fun _ => h, fun z2 => ?_⟩⟩
  obtain ⟨j, hj, rfl⟩ := nI_of z
  refine absurd rfl (hn j ?_)
  rcases Nat.lt_or_ge j F with q | q
  · exact q
  · exact absurd (nI_le q hj) z2
/-- the first cells stay 1 -/
def pw (cells ofPrime : Nat → Int32) : Prop := ofPrime 0 = 1 ∧ ∀ f, f < 12 → cells (18 * f) = 1
theorem s_vap {bo se : Int32} {P cells : Nat → Int32} {needs K A B C N : Nat → Int32} {M p f k F : Nat} {Q : Int32 → (Nat → Int32) → (Nat → Int32) → Prop} (hw : wfp F K A B) (hn : ndp F K A B needs) (hF : F ≤ 12) (hM : 2 ≤ M) (hM2 : M ≤ 1000003) (hf : f < F) (hk : k ≤ 17) (hp : p ≤ 200003) (hpw : pw cells P) (h : ∀ cells' P', pw cells' P' → Q (nI (tv K A B C N M f p k)) cells' P') : wX4_valueAtPower bo (nI M) se (nI F) needs cells P A B K N C (nI f) (nI p) (nI k) Q := by
  obtain ⟨m, hm, hnm, hmf, hcl⟩ := hn f hf
  have hT : ∀ g j, tv K A B C N M g p j < M := fun g j => tv_lt hM
  unfold wX4_valueAtPower
  refine ⟨_, has_y (by omega) hf ?_, fun _ h => h⟩
  refine c1 ⟨fun z => absurd z (nI_pos (by omega)), fun _ => pk_le k 17 (fun _ => ⟨pk_in f 12 (by omega), ?_⟩) (fun z => by omega)⟩
  rw [nI_clamp (show f < 2 ^ 31 by omega), hnm]
  rintro x5 rfl
  refine ⟨fun cs ps x => ∃ i : Nat, 1 ≤ i ∧ i ≤ k + 1 ∧ x = nI i ∧ pw cs ps ∧ (∀ j, j < i → ps j = nI (p ^ j % M)) ∧ ∀ g, m.testBit g = true → ∀ j, j < i → cs (18 * g + j) = nI (tv K A B C N M g p j), fun _ _ x => 18 - x.toNatClampNeg, ⟨1, by omega, by omega, rfl, hpw, fun j hj => ?_, fun g hg j hj => ?_⟩, ?_⟩
  · obtain rfl : j = 0 := by omega
    rw [hpw.1, Nat.pow_zero, Nat.mod_eq_of_lt (by omega)]; rfl
  · obtain rfl : j = 0 := by omega
    have := (hcl g hg).1
    rw [Nat.add_zero, hpw.2 g (by omega), tv_0]; rfl
  rintro cs ps x ⟨i, hi1, hi2, rfl, hpw1, hps, hcs⟩
  refine pk_lt k i (fun z => ?_) (fun z => ?_)
  · rw [show nI f * 18 + nI k = nI (18 * f + k) from by rw [show (18 : Int32) = nI 18 from rfl, pk_mul, nI_add, Nat.mul_comm]]
    refine ⟨vp_in_nI (by omega) (by omega), ?_⟩
    rw [nI_clamp (by omega), hcs f hmf k (by omega)]
    exact h cs ps hpw1
  · rw [show nI i - 1 = nI (i - 1) from pk_sub (b := 1) hi1]
    refine ⟨vp_in_nI (by omega) (by omega), ?_⟩
    have hpb : p ^ (i - 1) % M < M := Nat.mod_lt _ (by omega)
    have hmul : p ^ (i - 1) % M * p ≤ 1000003 * 200003 := Nat.mul_le_mul (by omega) hp
    rw [nI_clamp (by omega), hps (i - 1) (by omega), lI_nI (by omega), lI_nI (by omega), lI_mul, ← Int.natCast_mul]
    refine ⟨_, s_rest hM hM2 ?_, fun _ h => h⟩
    rw [lI_toInt (by omega) (by omega), ← Int.natCast_emod, Int.toNat_natCast, em_pow hi1]
    refine ⟨pk_in i 18 (by omega), ?_⟩
    rintro ps2 rfl
    rw [nI_clamp (by omega)]
    have hps2 : ∀ j, j < i + 1 → upd ps i (nI (p ^ i % M)) j = nI (p ^ j % M) := by
      intro j hj
      by_cases e : j = i
      · subst e; exact pk_us
      · rw [pk_un e]; exact hps j (by omega)
    have hpw2 : ∀ cs2 : Nat → Int32, (∀ f, f < 12 → cs2 (18 * f) = 1) → pw cs2 (upd ps i (nI (p ^ i % M))) := fun cs2 hc => ⟨by rw [pk_un (by omega)]; exact hpw1.1, hc⟩
    refine ⟨fun cs2 x7 => ∃ g : Nat, g ≤ f + 1 ∧ x7 = nI g ∧ (∀ f, f < 12 → cs2 (18 * f) = 1) ∧ (∀ g2, m.testBit g2 = true → ∀ j, (j < i ∨ (j = i ∧ g2 < g)) → cs2 (18 * g2 + j) = nI (tv K A B C N M g2 p j)), fun _ x7 => 13 - x7.toNatClampNeg, ⟨0, by omega, rfl, hpw1.2, fun g2 hg2 j hj => hcs g2 hg2 j (by omega)⟩, ?_⟩
    rintro cs2 x7 ⟨g, hg, rfl, hc1, hc2⟩
    rw [nI_1, nI_1]
    refine pk_lt f g (fun z2 => ?_) (fun z2 => ?_)
    · exact ⟨⟨i + 1, by omega, by omega, rfl, hpw2 cs2 hc1, hps2, fun g2 hg2 j hj => hc2 g2 hg2 j (by have := (hcl g2 hg2).1; omega)⟩, ms_up (by omega) (by omega)⟩
    · rw [z_bit (by omega) (by omega)]
      refine ⟨fun hb => ⟨⟨g + 1, by omega, rfl, hc1, fun g2 hg2 j hj => hc2 g2 hg2 j ?_⟩, ms_up (by omega) (by omega)⟩, fun hb => ?_⟩
      · rcases hj with hj | ⟨hj, hj2⟩
        · exact Or.inl hj
        · refine Or.inr ⟨hj, ?_⟩
          rcases Nat.lt_or_ge g2 g with q | q
          · exact q
          · obtain rfl : g2 = g := by omega
            rw [hg2] at hb; exact absurd hb (by simp)
      · have hbt : m.testBit g = true := by simpa using hb
        have hgF : g < F := by omega
        have hcg := hcl g hbt
        refine ⟨_, s_cellOf (T := fun g i => tv K A B C N M g p i) (M := M) (F := F) hw hF hM hM2 hgF hi1 (by omega) hp (fun j hj => hps2 j (by omega)) (fun hK j hj => ?_) (fun hK j hj => ?_) (fun j hj => hc2 g hbt j (Or.inl hj)) hT (fun zz hz hz1 hz2 => ?_), fun _ h => h⟩
        · have h1 := hcg.2.1 hK
          have h2 := ((hw g hgF).1 hK).1
          exact hc2 _ h1 j (by omega)
        · have h1 := hcg.2.2 hK
          have h2 := ((hw g hgF).2 hK).1
          exact hc2 _ h1 j (by omega)
        · refine ⟨_, s_rest hM hM2 ?_, fun _ h => h⟩
          rw [lI_toInt (by omega) (by omega), hz, ← tv_eq hw hgF hi1, show nI g * 18 + nI i = nI (18 * g + i) from by rw [show (18 : Int32) = nI 18 from rfl, pk_mul, nI_add, Nat.mul_comm]]
          refine ⟨vp_in_nI (by omega) (by omega), ?_⟩
          rintro cs3 rfl
          rw [nI_clamp (by omega)]
          refine ⟨⟨g + 1, by omega, rfl, fun f2 hf2 => by rw [pk_un (by omega)]; exact hc1 f2 hf2, fun g2 hg2 j hj => ?_⟩, ms_up (by omega) (by omega)⟩
          by_cases e : g2 = g ∧ j = i
          · obtain ⟨rfl, rfl⟩ := e; exact pk_us
          · have hg2f := (hcl g2 hg2).1
            rw [pk_un (by omega)]
            exact hc2 g2 hg2 j (by omega)
