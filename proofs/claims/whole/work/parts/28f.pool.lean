/-! PURE: the pool of rows -/
theorem va_same {α : Type} (f : Nat → α) (k : Nat) : va_up f k (f k) = f := by
  funext j
  by_cases e : j = k
  · subst e; exact va_up_self _ _ _
  · exact va_up_ne _ _ e
theorem va_twice {α : Type} (f : Nat → α) (k : Nat) (a b : α) : va_up (va_up f k a) k b = va_up f k b := by
  funext j
  by_cases e : j = k
  · subst e; rw [va_up_self, va_up_self]
  · rw [va_up_ne _ _ e, va_up_ne _ _ e, va_up_ne _ _ e]
theorem s_fill {bo se turn : Int32} {P cells : Nat → Int32} {needs K A B C N rf rm rl ru least : Nat → Int32} {rn : Nat → Nat} {rv : Nat → Nat → Int32} {M f F k l x Ls : Nat} {Q : (Nat → Int32) → (Nat → Nat → Int32) → (Nat → Int32) → (Nat → Int32) → Prop} (hw : wfp F K A B) (hn : ndp F K A B needs) (hF : F ≤ 12) (hM : 2 ≤ M) (hM2 : M ≤ 1000003) (hf : f < F) (hpw : pw cells P) (hsv : svOK Ls least) (hLs : Ls ≤ 200001) (hrf : rf k = nI f) (hrm : rm k = nI M) (hrl : rl k = nI l) (hr : rowOK (tv K A B C N M f) M l (rn k) (rv k)) (hlx : l ≤ x) (hx1 : x < rn k) (hx2 : x < Ls) (h : ∀ v' cells' P', pw cells' P' → rowOK (tv K A B C N M f) M x (rn k) v' → Q (upd rl k (nI x)) (va_up rv k v') cells' P') : wX7_fill rf rm rl ru rn rv turn Ls least bo (nI M) se (nI F) needs cells P A B K N C k (nI x) Q := by
  have hT : ∀ p j, tv K A B C N M f p j < M := fun p j => tv_lt hM
  have hrn : rn k ≤ 200001 := hr.2.2.1
  have hl1 : 1 ≤ l := hr.1
  unfold wX7_fill
  have e1 : (if nI Ls < nI (rn k) then nI Ls else nI (rn k)) = nI (if Ls < rn k then Ls else rn k) := by
    by_cases c : Ls < rn k
    · rw [if_pos c, if_pos (nI_lt c (by omega))]
    · rw [if_neg c, if_neg (nI_nlt (by omega) (by omega))]
  have e2 : 1 ≤ (if Ls < rn k then Ls else rn k) ∧ x ≤ (if Ls < rn k then Ls else rn k) - 1 := by split <;> omega
  have e3 : (if Ls < rn k then Ls else rn k) ≤ 200001 := by split <;> omega
  rw [e1, hrf, hrm, hrl]
  generalize (if Ls < rn k then Ls else rn k) = mn at *
  rintro m1 rfl m2 rfl y rfl
  rw [show nI mn - 1 = nI (mn - 1) from pk_sub (b := 1) e2.1, if_neg (nI_nlt e2.2 (by omega)), nI_1]
  refine ⟨fun cs ps y rl2 rv2 => ∃ (n : Nat) (v : Nat → Int32), l < n ∧ n ≤ x + 1 ∧ y = nI n ∧ pw cs ps ∧ rl2 = upd rl k (nI (n - 1)) ∧ rv2 = va_up rv k v ∧ rowOK (tv K A B C N M f) M (n - 1) (rn k) v, fun _ _ y _ _ => 200002 - y.toNatClampNeg, ⟨l + 1, rv k, by omega, by omega, rfl, hpw, ?_, (va_same rv k).symm, hr⟩, ?_⟩
  · rw [Nat.add_sub_cancel]; exact (fa_upd_same hrl).symm
  rintro cs ps y rl2 rv2 ⟨n, v, hn1, hn2, rfl, hpw1, rfl, rfl, hv⟩
  rw [pk_us, va_up_self]
  refine pk_lt x n (fun z => ?_) (fun z => ⟨pk_in n Ls (by omega), ?_⟩)
  · obtain rfl : n = x + 1 := by omega
    rw [Nat.add_sub_cancel] at hv ⊢
    exact h v cs ps hpw1 hv
  obtain ⟨q, rfl⟩ : ∃ q, n = q + 1 := ⟨n - 1, by omega⟩
  rw [Nat.add_sub_cancel] at hv ⊢
  have hq1 := hv.1
  rw [nI_clamp (by omega), nI_1]
  rintro p7 rfl
  have fin : ∀ (cs2 ps2 : Nat → Int32) (v' : Nat → Int32), pw cs2 ps2 → rowOK (tv K A B C N M f) M (q + 1) (rn k) v' → (∃ (n : Nat) (u : Nat → Int32), l < n ∧ n ≤ x + 1 ∧ nI (q + 1 + 1) = nI n ∧ pw cs2 ps2 ∧ upd (upd rl k (nI q)) k (nI (q + 1)) = upd rl k (nI (n - 1)) ∧ va_up (va_up rv k v) k v' = va_up rv k u ∧ rowOK (tv K A B C N M f) M (n - 1) (rn k) u) ∧ 200002 - (nI (q + 1 + 1)).toNatClampNeg < 200002 - (nI (q + 1)).toNatClampNeg :=
    fun cs2 ps2 v' hp hv' => ⟨⟨q + 1 + 1, v', by omega, by omega, rfl, hp, fa_upd_twice _ _ _ _, va_twice _ _ _ _, hv'⟩, ms_up (by omega) (by omega)⟩
  rcases hsv (q + 1) (by omega) with ⟨a1, a2⟩ | ⟨p, a0, a1, a2, a3⟩
  · have hP : isP (q + 1) := a2.resolve_left (by omega)
    rw [a1]
    refine ⟨fun z2 => absurd z2 (by decide), fun _ => ?_⟩
    refine ⟨_, s_vap (k := 1) hw hn hF hM hM2 hf (by omega) (by omega) hpw1 (fun cs2 ps2 hpw2 => ?_), fun _ _ _ h => h⟩
    refine ⟨_, s_append hM hM2 hv (by omega) (vV_prime hM hP (hT _ _)).symm (fun v' hv' => ?_), fun _ _ h => h⟩
    rintro r1 rfl r2 rfl
    exact fin _ _ _ hpw2 hv'
  · rw [a2]
    refine pk_le 2 p (fun _ => ⟨nI_ne0 (by omega) (by omega), ?_⟩) (fun z2 => by omega)
    rw [pk_div (by omega) (by omega) (by omega)]
    rintro x8 rfl
    obtain ⟨t0, ht0⟩ := a3.2.1
    refine ⟨fun x8 x9 => ∃ m j : Nat, x8 = nI m ∧ x9 = nI j ∧ q + 1 = p ^ j * m ∧ 0 < m ∧ 1 ≤ j, fun x8 _ => x8.toNatClampNeg, ⟨(q + 1) / p, 1, rfl, rfl, ?_, ?_, by omega⟩, ?_⟩
    · rw [Nat.pow_one, Nat.mul_div_cancel' a3.2.1]
    · exact Nat.div_pos (by omega) (by omega)
    rintro x8 x9 ⟨m, j, rfl, rfl, hnm, hm, hj⟩
    have hk := pow_gt a0 (show p ^ j * m ≤ 200000 by omega) hm
    have hmn : m ≤ q + 1 := by rw [hnm]; exact Nat.le_mul_of_pos_left m (Nat.pow_pos (by omega))
    refine ⟨¬ p ∣ m, pk_le 17 j (fun z2 => hk.2 (by omega)) (fun z2 => ⟨nI_ne0 (by omega) (by omega), ?_⟩), fun hJ => ?_⟩
    · rw [pk_rem (by omega) (by omega) (by omega)]
      have hmp := Nat.mod_lt m (show 0 < p by omega)
      refine pn_eq (m % p) 0 (fun e hd => e (Nat.mod_eq_zero_of_dvd hd)) (fun e => ?_)
      rintro x6 rfl
      obtain ⟨t, rfl⟩ := Nat.dvd_of_mod_eq_zero e
      rw [pk_div (by omega) (by omega) (by omega), Nat.mul_div_cancel_left t (by omega), nI_1]
      have ht : 0 < t := Nat.pos_of_ne_zero (fun z => by subst z; omega)
      have htp : 2 * t ≤ p * t := Nat.mul_le_mul_right t a0
      exact ⟨⟨t, j + 1, rfl, rfl, by rw [hnm, Nat.pow_succ, Nat.mul_assoc], ht, by omega⟩, ms_dn (by omega) (by omega)⟩
    · have hpj : 0 < p ^ j := Nat.pow_pos (by omega)
      have hpj2 : p ≤ p ^ j := by
        obtain ⟨i, rfl⟩ : ∃ i, j = i + 1 := ⟨j - 1, by omega⟩
        rw [Nat.pow_succ]; exact Nat.le_mul_of_pos_left p (Nat.pow_pos (by omega))
      refine pk_le 2 m (fun z2 => ⟨nI_ne0 (by omega) (by omega), ?_⟩) (fun z2 => ?_)
      · rw [pk_div (by omega) (by omega) (by omega)]
        have e4 : (q + 1) / m = p ^ j := by rw [hnm, Nat.mul_div_cancel _ hm]
        rw [e4]
        have b1 : p ^ j * 2 ≤ p ^ j * m := Nat.mul_le_mul_left _ z2
        have b2 : 2 * m ≤ p ^ j * m := Nat.mul_le_mul_right m (by omega)
        refine ⟨_, s_appendProduct hM hM2 hv (by omega) hpj (by omega) hm (by omega) ?_ (fun v' hv' => ?_), fun _ _ h => h⟩
        · rw [hnm, vV_split hM a3.1 hj hm hJ, vV_pow hM a3.1 hj (hT _ _), Nat.mul_comm]
        · rintro r1 rfl r2 rfl
          exact fin _ _ _ hpw1 hv'
      · obtain rfl : m = 1 := by omega
        rw [Nat.mul_one] at hnm
        refine ⟨_, s_vap hw hn hF hM hM2 hf hk.1 (by omega) hpw1 (fun cs2 ps2 hpw2 => ?_), fun _ _ _ h => h⟩
        refine ⟨_, s_append hM hM2 hv (by omega) (by rw [hnm]; exact (vV_pow hM a3.1 hj (hT _ _)).symm) (fun v' hv' => ?_), fun _ _ h => h⟩
        rintro r1 rfl r2 rfl
        exact fin _ _ _ hpw2 hv'
/-- the first of the least among ru 0 .. ru (i - 1) -/
def am (ru : Nat → Int32) : Nat → Nat
  | 0 => 0
  | i + 1 => if ru (am ru i) ≤ ru i then am ru i else i
theorem am_lt {ru : Nat → Int32} : ∀ i, am ru (i + 1) ≤ i
  | 0 => by
    show (if ru 0 ≤ ru 0 then 0 else 0) ≤ 0
    split <;> omega
  | i + 1 => by
    have := am_lt (ru := ru) i
    show (if ru (am ru (i + 1)) ≤ ru (i + 1) then am ru (i + 1) else i + 1) ≤ i + 1
    split <;> omega
theorem am_le {ru : Nat → Int32} : ∀ i j, j < i → ru (am ru i) ≤ ru j
  | 0, j, h => by omega
  | i + 1, j, h => by
    show ru (if ru (am ru i) ≤ ru i then am ru i else i) ≤ ru j
    by_cases c : ru (am ru i) ≤ ru i
    · rw [if_pos c]
      by_cases e : j = i
      · subst e; exact c
      · exact am_le i j (by omega)
    · rw [if_neg c]
      by_cases e : j = i
      · subst e; rw [fa_le]; omega
      · have := am_le (ru := ru) i j (by omega)
        rw [fa_le] at *
        omega
theorem s_begin {fn mo fi us a b : Int32} {n : Nat} {v : Nat → Int32} {Q : Int32 → Int32 → Int32 → (Nat → Int32) → Prop} (hn : 2 ≤ n) (hn2 : n ≤ 200001) (h : Q a b 1 (upd (upd v 0 0) 1 1)) : wX6_begin fn mo fi us n v a b Q := by
  unfold wX6_begin
  refine ⟨pk_in 0 n (by omega), ?_⟩
  rintro v1 rfl
  refine ⟨pk_in 1 n (by omega), ?_⟩
  rintro v2 rfl
  exact h
theorem s_rowOf_k {turn a b : Int32} {rf rm rl ru : Nat → Int32} {rn : Nat → Nat} (hn : ∀ k, k < 4 → 2 ≤ rn k ∧ rn k ≤ 200001) : ∃ k, k < 4 ∧ ((rf k = a ∧ rm k = b ∧ ∀ (rv : Nat → Nat → Int32) Q, Q k rf rm rl rv → wX7_rowOf turn rf rm rl ru rn rv a b Q) ∨ ((∀ j, j < 4 → ru k ≤ ru j) ∧ ∀ (rv : Nat → Nat → Int32) Q, Q k (upd rf k a) (upd rm k b) (upd rl k 1) (va_up rv k (upd (upd (rv k) 0 0) 1 1)) → wX7_rowOf turn rf rm rl ru rn rv a b Q)) := by
  by_cases hex : ∃ j, j < 4 ∧ rf j = a ∧ rm j = b
  · obtain ⟨k, ⟨hk, h1, h2⟩, h3⟩ := pk_least (fun j => j < 4 ∧ rf j = a ∧ rm j = b) hex
    refine ⟨k, hk, Or.inl ⟨h1, h2, fun rv Q hQ => ?_⟩⟩
    unfold wX7_rowOf
    refine ⟨fun x kk => ∃ i : Nat, i ≤ k ∧ x = nI i ∧ kk = am ru i, fun x _ => 5 - x.toNatClampNeg, ⟨0, by omega, rfl, rfl⟩, ?_⟩
    rintro x kk ⟨i, hi, rfl, rfl⟩
    refine pk_le 4 i (fun z => by omega) (fun z => ⟨pk_in i 4 z, ?_⟩)
    rw [nI_clamp (by omega), nI_1]
    have hstep : i < k → ((ru (am ru i)) ≤ (ru i) → ((∃ i2 : Nat, i2 ≤ k ∧ nI (i + 1) = nI i2 ∧ am ru i = am ru i2) ∧ 5 - (nI (i + 1)).toNatClampNeg < 5 - (nI i).toNatClampNeg)) ∧ (¬ (ru (am ru i)) ≤ (ru i) → ((∃ i2 : Nat, i2 ≤ k ∧ nI (i + 1) = nI i2 ∧ i = am ru i2) ∧ 5 - (nI (i + 1)).toNatClampNeg < 5 - (nI i).toNatClampNeg)) :=
      fun hlt => ⟨fun c => ⟨⟨i + 1, by omega, rfl, (if_pos c).symm⟩, ms_up (by omega) (by omega)⟩, fun c => ⟨⟨i + 1, by omega, rfl, (if_neg c).symm⟩, ms_up (by omega) (by omega)⟩⟩
    refine ⟨fun c => ?_, fun c => ⟨fun d => ?_, fun d => ?_⟩⟩
    · have : i < k := by
        rcases Nat.lt_or_ge i k with q | q
        · exact q
        · have : i = k := by omega
          subst this; exact absurd h1 c
      exact hstep this
    · have : i < k := by
        rcases Nat.lt_or_ge i k with q | q
        · exact q
        · have : i = k := by omega
          subst this; exact absurd h2 d
      exact hstep this
    · have : i = k := by
        rcases Nat.lt_or_ge i k with q | q
        · exact absurd ⟨z, c, d⟩ (h3 i q)
        · omega
      subst this; exact hQ
  · have hk : am ru 4 ≤ 3 := am_lt (ru := ru) 3
    refine ⟨am ru 4, by omega, Or.inr ⟨fun j hj => am_le 4 j hj, fun rv Q hQ => ?_⟩⟩
    unfold wX7_rowOf
    refine ⟨fun x kk => ∃ i : Nat, i ≤ 4 ∧ x = nI i ∧ kk = am ru i, fun x _ => 5 - x.toNatClampNeg, ⟨0, by omega, rfl, rfl⟩, ?_⟩
    rintro x kk ⟨i, hi, rfl, rfl⟩
    refine pk_le 4 i (fun z => ?_) (fun z => ⟨pk_in i 4 z, ?_⟩)
    · obtain rfl : i = 4 := by omega
      have hr := hn (am ru 4) (by omega)
      refine ⟨_, s_begin hr.1 hr.2 ?_, fun _ _ _ _ h => h⟩
      rintro r1 rfl r2 rfl r3 rfl r4 rfl
      exact hQ
    · rw [nI_clamp (by omega), nI_1]
      have hstep : ((ru (am ru i)) ≤ (ru i) → ((∃ i2 : Nat, i2 ≤ 4 ∧ nI (i + 1) = nI i2 ∧ am ru i = am ru i2) ∧ 5 - (nI (i + 1)).toNatClampNeg < 5 - (nI i).toNatClampNeg)) ∧ (¬ (ru (am ru i)) ≤ (ru i) → ((∃ i2 : Nat, i2 ≤ 4 ∧ nI (i + 1) = nI i2 ∧ i = am ru i2) ∧ 5 - (nI (i + 1)).toNatClampNeg < 5 - (nI i).toNatClampNeg)) :=
        ⟨fun c => ⟨⟨i + 1, by omega, rfl, (if_pos c).symm⟩, ms_up (by omega) (by omega)⟩, fun c => ⟨⟨i + 1, by omega, rfl, (if_neg c).symm⟩, ms_up (by omega) (by omega)⟩⟩
      exact ⟨fun _ => hstep, fun c => ⟨fun _ => hstep, fun d => absurd ⟨i, z, c, d⟩ hex⟩⟩
