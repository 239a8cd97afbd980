/-! PURE: rows of sums -/
theorem rem_fix {m : Nat} {x : Int64} {A : Int32 → Prop} (hm : 2 ≤ m) (hm2 : m ≤ 1000003) (h : A (nI (x.toInt % (m : Int)).toNat)) : (0 ≤ (x - x / lN m * lN m).toInt32 → A (x - x / lN m * lN m).toInt32) ∧ (¬ 0 ≤ (x - x / lN m * lN m).toInt32 → A ((x - x / lN m * lN m).toInt32 + nI m)) := by
  rw [i64_rem x (by omega) (by omega), lI_i]
  have h2 := tmod_lt x.toInt (m := (m : Int)) (by omega)
  have h3 := tmod_fix x.toInt (m := (m : Int)) (by omega)
  have h4 : (iI (x.toInt.tmod m)).toInt = x.toInt.tmod m := iI_toInt (by omega) (by omega)
  refine ⟨fun z => ?_, fun z => ?_⟩
  · have h5 : 0 ≤ x.toInt.tmod m := by rw [← h4]; exact Int32.le_iff_toInt_le.mp z
    have h6 : iI (x.toInt.tmod m) = nI (x.toInt % (m : Int)).toNat := by
      rw [iI_N, ← h3.1 h5]; congr 1; omega
    rw [h6]; exact h
  · have h5 : x.toInt.tmod m < 0 := by
      rcases Int.lt_or_le (x.toInt.tmod m) 0 with q | q
      · exact q
      · exact absurd (Int32.le_iff_toInt_le.mpr (by rw [h4]; exact q)) z
    have h6 : iI (x.toInt.tmod m) + nI m = nI (x.toInt % (m : Int)).toNat := by
      have := h3.2 h5
      rw [iI_N, iI_N, iI_add, this]; congr 1; omega
    rw [h6]; exact h
theorem dif_fix {a b m : Nat} {A : Int32 → Prop} (ha : a < m) (hb : b < m) (hm2 : m ≤ 1000003) (h : A (nI ((b + m - a) % m))) : (0 ≤ nI b - nI a → A (nI b - nI a)) ∧ (¬ 0 ≤ nI b - nI a → A (nI b - nI a + nI m)) := by
  rcases Nat.lt_or_ge b a with z | z
  · have e : (b + m - a) % m = b + m - a := Nat.mod_eq_of_lt (by omega)
    rw [e] at h
    have hn : nI b - nI a < 0 := pk_sneg (by omega) z
    refine ⟨fun w => ?_, fun _ => ?_⟩
    · exact absurd hn (by rw [fa_lt]; rw [fa_le] at w; omega)
    · have : nI b - nI a + nI m = nI (b + m - a) := by
        rw [iI_N, iI_N, iI_N, iI_N, iI_sub, iI_add]; congr 1; omega
      rw [this]; exact h
  · have e : (b + m - a) % m = b - a := by
      rw [show b + m - a = (b - a) + m by omega, Nat.add_mod_right]; exact Nat.mod_eq_of_lt (by omega)
    rw [e] at h
    rw [pk_sub z]
    exact ⟨fun _ => h, fun w => absurd (nI_pos' (by omega)) w⟩
/-- row v holds the sums of g by m up to l -/
def rowOK (g : Nat → Nat → Nat) (m l n : Nat) (v : Nat → Int32) : Prop := 1 ≤ l ∧ l < n ∧ n ≤ 200001 ∧ ∀ i, i ≤ l → v i = nI (sV g m i)
theorem s_sumTo {fn mo us : Int32} {g : Nat → Nat → Nat} {m l n x : Nat} {v : Nat → Int32} {Q : Int32 → Prop} (hr : rowOK g m l n v) (hx : x ≤ l) (h : Q (nI (sV g m x))) : wX6_sumTo fn mo (nI l) us n v (nI x) Q := by
  obtain ⟨h1, h2, h3, h4⟩ := hr
  unfold wX6_sumTo
  refine ⟨fun z => absurd z (nI_pos (by omega)), fun _ => pk_lt l x (fun z => by omega) (fun _ => ⟨pk_in x n (by omega), ?_⟩)⟩
  rw [nI_clamp (by omega), h4 x hx]; exact h
def str (g : Nat → Nat → Nat) (m a b : Nat) : Nat := (sV g m b + m - sV g m (a - 1)) % m
theorem s_stretch {fn us : Int32} {g : Nat → Nat → Nat} {m l n a b : Nat} {v : Nat → Int32} {Q : Int32 → Prop} (hm : 2 ≤ m) (hm2 : m ≤ 1000003) (hr : rowOK g m l n v) (ha : 1 ≤ a) (ha2 : a ≤ l + 1) (hb : b ≤ l) (h : Q (nI (str g m a b))) : wX6_stretch fn (nI m) (nI l) us n v (nI a) (nI b) Q := by
  have hr2 := hr
  obtain ⟨h1, h2, h3, h4⟩ := hr2
  unfold wX6_stretch
  refine ⟨_, s_sumTo hr hb ?_, fun _ h => h⟩
  rw [show nI a - 1 = nI (a - 1) from pk_sub (b := 1) ha]
  refine ⟨_, s_sumTo hr (show a - 1 ≤ l by omega) ?_, fun _ h => h⟩
  rintro x rfl
  exact dif_fix (A := Q) (sV_lt hm _) (sV_lt hm _) hm2 h
theorem vV_dif {g : Nat → Nat → Nat} {m n : Nat} (hm : 2 ≤ m) (hn : 1 ≤ n) : (sV g m n + m - sV g m (n - 1)) % m = vV g m n := by
  obtain ⟨k, rfl⟩ : ∃ k, n = k + 1 := ⟨n - 1, by omega⟩
  rw [Nat.add_sub_cancel]
  have h1 := sV_diff (g := g) (n := k) hm
  have h2 := sV_lt (g := g) hm k
  have h3 := sV_lt (g := g) hm (k + 1)
  have h4 := vV_lt (g := g) (n := k + 1) hm
  rcases Nat.lt_or_ge (sV g m (k + 1)) (sV g m k) with z | z
  · rw [h1.2 z]; exact Nat.mod_eq_of_lt h4
  · have := h1.1 z
    rw [show sV g m (k + 1) + m - sV g m k = vV g m (k + 1) + m by omega, Nat.add_mod_right]; exact Nat.mod_eq_of_lt h4
theorem s_valueAtR {fn us : Int32} {g : Nat → Nat → Nat} {m l n x : Nat} {v : Nat → Int32} {Q : Int32 → Prop} (hm : 2 ≤ m) (hm2 : m ≤ 1000003) (hr : rowOK g m l n v) (hx : 1 ≤ x) (hx2 : x ≤ l) (h : Q (nI (vV g m x))) : wX6_valueAt fn (nI m) (nI l) us n v (nI x) Q := by
  obtain ⟨h1, h2, h3, h4⟩ := hr
  unfold wX6_valueAt
  refine pk_lt x 1 (fun z => by omega) (fun _ => pk_le x l (fun _ => ⟨pk_in x n (by omega), ?_⟩) (fun z => by omega))
  rw [show nI x - 1 = nI (x - 1) from pk_sub (b := 1) hx]
  refine ⟨vp_in_nI (by omega) (by omega), ?_⟩
  rintro y rfl
  rw [nI_clamp (by omega), nI_clamp (by omega), h4 x hx2, h4 (x - 1) (by omega)]
  exact dif_fix (A := Q) (sV_lt hm _) (sV_lt hm _) hm2 (by rw [vV_dif hm hx]; exact h)
theorem s_append {fn us : Int32} {g : Nat → Nat → Nat} {m l n x : Nat} {v : Nat → Int32} {Q : Int32 → (Nat → Int32) → Prop} (hm : 2 ≤ m) (hm2 : m ≤ 1000003) (hr : rowOK g m l n v) (hl : l + 1 < n) (hx : x = vV g m (l + 1)) (h : ∀ v', rowOK g m (l + 1) n v' → Q (nI (l + 1)) v') : wX6_append fn (nI m) (nI l) us n v (nI x) Q := by
  obtain ⟨h1, h2, h3, h4⟩ := hr
  have hv := vV_lt (g := g) (n := l + 1) hm
  have hs := sV_lt (g := g) hm l
  have hS : sV g m (l + 1) = (sV g m l + vV g m (l + 1)) % m := rfl
  have fin : ∀ y : Nat, y = sV g m (l + 1) → Q (nI (l + 1)) (upd v (l + 1) (nI y)) := by
    intro y hy
    refine h _ ⟨by omega, hl, h3, fun i hi => ?_⟩
    by_cases e : i = l + 1
    · subst e; rw [pk_us, hy]
    · rw [pk_un e]; exact h4 i (by omega)
  unfold wX6_append
  rw [nI_1]
  refine ⟨fun z => absurd z (nI_pos (by omega)), fun _ => pk_le n (l + 1) (fun z => by omega) (fun _ => ⟨pk_in l n h2, ?_⟩)⟩
  rw [nI_clamp (by omega), h4 l (Nat.le_refl l), nI_add]
  rintro y rfl f1 rfl
  rw [nI_clamp (by omega)]
  refine pk_lt (sV g m l + x) m (fun z => ⟨vp_in_nI hl (by omega), ?_⟩) (fun z => ?_)
  · rintro w rfl
    exact fin _ (by rw [hS, ← hx]; exact (Nat.mod_eq_of_lt z).symm)
  · rw [pk_sub z]
    rintro e rfl
    refine ⟨vp_in_nI hl (by omega), ?_⟩
    rintro w rfl
    exact fin _ (by rw [hS, ← hx, Nat.mod_eq_sub_mod z]; exact (Nat.mod_eq_of_lt (by omega)).symm)
theorem dif_int {g : Nat → Nat → Nat} {m n : Nat} (hm : 2 ≤ m) (hn : 1 ≤ n) : ((sV g m n : Int) - (sV g m (n - 1) : Int)) % (m : Int) = (vV g m n : Int) % (m : Int) := by
  have h := vV_dif (g := g) hm hn
  have h1 := sV_lt (g := g) hm (n - 1)
  have e : ((sV g m n : Int) - (sV g m (n - 1) : Int)) % (m : Int) = ((sV g m n + m - sV g m (n - 1) : Nat) : Int) % (m : Int) := by
    rw [show ((sV g m n + m - sV g m (n - 1) : Nat) : Int) = ((sV g m n : Int) - (sV g m (n - 1) : Int)) + (m : Int) by omega, Int.add_emod_right]
  rw [e, ← natmod_cast, h, ← natmod_cast, Nat.mod_eq_of_lt (vV_lt hm)]
theorem s_appendProduct {fn us : Int32} {g : Nat → Nat → Nat} {m l n a b : Nat} {v : Nat → Int32} {Q : Int32 → (Nat → Int32) → Prop} (hm : 2 ≤ m) (hm2 : m ≤ 1000003) (hr : rowOK g m l n v) (hl : l + 1 < n) (ha : 1 ≤ a) (ha2 : a ≤ l) (hb : 1 ≤ b) (hb2 : b ≤ l) (hx : vV g m a * vV g m b % m = vV g m (l + 1)) (h : ∀ v', rowOK g m (l + 1) n v' → Q (nI (l + 1)) v') : wX6_appendProduct fn (nI m) (nI l) us n v (nI a) (nI b) Q := by
  have hr2 := hr
  obtain ⟨h1, h2, h3, h4⟩ := hr2
  unfold wX6_appendProduct
  refine pk_lt a 1 (fun z => by omega) (fun _ => pk_lt l a (fun z => by omega) (fun _ => pk_lt b 1 (fun z => by omega) (fun _ => pk_lt l b (fun z => by omega) (fun _ => pk_le 2 m (fun _ => ⟨pk_in a n (by omega), ?_⟩) (fun z => by omega)))))
  rw [show nI a - 1 = nI (a - 1) from pk_sub (b := 1) ha, show nI b - 1 = nI (b - 1) from pk_sub (b := 1) hb]
  refine ⟨vp_in_nI (by omega) (by omega), ?_⟩
  rintro y rfl
  refine ⟨pk_in b n (by omega), vp_in_nI (by omega) (by omega), ?_⟩
  rintro w rfl
  rw [nI_clamp (by omega), nI_clamp (by omega), nI_clamp (by omega), nI_clamp (by omega), h4 a ha2, h4 (a - 1) (by omega), h4 b hb2, h4 (b - 1) (by omega), nI_l (show m < 2 ^ 31 by omega)]
  refine ⟨fun e => by have := (lN_eq (a := m) (b := 0) (by omega) (by omega)).mp e; omega, ?_⟩
  rintro t rfl
  rintro u rfl
  have s1 := sV_lt (g := g) hm a
  have s2 := sV_lt (g := g) hm (a - 1)
  have s3 := sV_lt (g := g) hm b
  have s4 := sV_lt (g := g) hm (b - 1)
  have e1 : ∀ c d : Nat, c < m → d < m → (nI c - nI d).toInt64 = lI ((c : Int) - (d : Int)) := by
    intro c d hc hd
    rw [iI_N, iI_N, iI_sub, iI_l (by omega) (by omega)]
  rw [e1 _ _ s1 s2, e1 _ _ s3 s4, lI_mul]
  have key : wX6_append fn (nI m) (nI l) us n v (nI (((sV g m a : Int) - (sV g m (a - 1) : Int)) * ((sV g m b : Int) - (sV g m (b - 1) : Int)) % (m : Int)).toNat) Q := by
    refine s_append hm hm2 hr hl ?_ h
    rw [← hx, Int.mul_emod, dif_int hm ha, dif_int hm hb, ← Int.mul_emod, ← Int.natCast_mul, ← natmod_cast]
    exact Int.toNat_natCast _
  have hb1 : -1000006000009 ≤ ((sV g m a : Int) - (sV g m (a - 1) : Int)) * ((sV g m b : Int) - (sV g m (b - 1) : Int)) ∧ ((sV g m a : Int) - (sV g m (a - 1) : Int)) * ((sV g m b : Int) - (sV g m (b - 1) : Int)) ≤ 1000006000009 := by
    generalize hc : (sV g m a : Int) - (sV g m (a - 1) : Int) = c
    generalize hd : (sV g m b : Int) - (sV g m (b - 1) : Int) = d
    have c1 : -1000003 ≤ c ∧ c ≤ 1000003 := by omega
    have d1 : -1000003 ≤ d ∧ d ≤ 1000003 := by omega
    have q1 : 0 ≤ (1000003 - c) * (1000003 - d) := Int.mul_nonneg (by omega) (by omega)
    have q2 : 0 ≤ (1000003 + c) * (1000003 + d) := Int.mul_nonneg (by omega) (by omega)
    have q3 : 0 ≤ (1000003 - c) * (1000003 + d) := Int.mul_nonneg (by omega) (by omega)
    have q4 : 0 ≤ (1000003 + c) * (1000003 - d) := Int.mul_nonneg (by omega) (by omega)
    rw [Int.sub_mul, Int.mul_sub, Int.mul_sub] at q1
    rw [Int.add_mul, Int.mul_add, Int.mul_add] at q2
    rw [Int.sub_mul, Int.mul_add, Int.mul_add] at q3
    rw [Int.add_mul, Int.mul_sub, Int.mul_sub] at q4
    omega
  have key2 := key
  rw [← lI_toInt (z := ((sV g m a : Int) - (sV g m (a - 1) : Int)) * ((sV g m b : Int) - (sV g m (b - 1) : Int))) (by omega) (by omega)] at key2
  exact rem_fix (A := fun t => ∃ P : Int32 → (Nat → Int32) → Prop, wX6_append fn (nI m) (nI l) us n v t P ∧ ∀ a b, P a b → Q a b) hm hm2 ⟨_, key2, fun _ _ h => h⟩
theorem s_placeOf {fn mo us : Int32} {g : Nat → Nat → Nat} {m l n r a b : Nat} {v : Nat → Int32} {Q : Int32 → Prop} (hm : 2 ≤ m) (hm2 : m ≤ 1000003) (hr : rowOK g m l n v) (hb : b ≤ l) (hr2 : r < m) (h1 : ∀ j, a ≤ j → j ≤ b → sV g m j = r → (∀ i, a ≤ i → i < j → sV g m i ≠ r) → Q (nI j)) (h0 : (∀ i, a ≤ i → i ≤ b → sV g m i ≠ r) → Q (-1)) (hab : a ≤ b + 1) : wX6_placeOf fn mo (nI l) us n v (nI r) (nI a) (nI b) Q := by
  have hl := hr.2.1
  have hn := hr.2.2.1
  unfold wX6_placeOf
  refine ⟨fun x => ∃ j : Nat, a ≤ j ∧ j ≤ b + 1 ∧ x = nI j ∧ ∀ i, a ≤ i → i < j → sV g m i ≠ r, fun x => 200002 - x.toNatClampNeg, ⟨a, Nat.le_refl a, hab, rfl, fun i h1 h2 => by omega⟩, ?_⟩
  rintro x ⟨j, hj1, hj2, rfl, hj3⟩
  refine pk_lt b j (fun z => h0 (fun i h1 h2 => hj3 i h1 (by omega))) (fun z => ⟨_, s_sumTo hr (show j ≤ l by omega) ?_, fun _ h => h⟩)
  have := sV_lt (g := g) hm j
  rw [nI_1]
  refine pn_eq (sV g m j) r (fun e => ⟨⟨j + 1, by omega, by omega, rfl, fun i h1 h2 => ?_⟩, ms_up (by omega) (by omega)⟩) (fun e => h1 j hj1 z e hj3)
  by_cases e2 : i = j
  · subst e2; exact e
  · exact hj3 i h1 (by omega)
