/-! PURE: what the small methods answer -/
theorem s_divided {a d : Nat} {Q : Int32 → Prop} (ha : a < 2 ^ 31) (h0 : 1 ≤ d) (hd : d < 2 ^ 31) (h : Q (nI (a / d))) : wX10_divided (nI a) (nI d) Q := by
  unfold wX10_divided
  exact pk_le 1 d (fun _ => ⟨nI_ne0 h0 hd, by rw [pk_div ha h0 hd]; exact h⟩) (fun z => by omega)
theorem s_rootOf {x : Nat} {Q : Int32 → Prop} (hx : x ≤ 200000) (h : ∀ r : Nat, r * r ≤ x → x < (r + 1) * (r + 1) → r < 512 → Q (nI r)) : wX10_rootOf (nI x) Q := by
  unfold wX10_rootOf
  refine ⟨fun r c => ∃ (a k : Nat), r = nI a ∧ c = nI k ∧ a * a ≤ x ∧ a < 512 ∧ ((k = 0 ∧ x < (a + 1) * (a + 1)) ∨ (x < (a + 2 * k) * (a + 2 * k) ∧ a + 2 * k ≤ 512 ∧ (k = 1 ∨ ∃ j, k = 2 * j ∧ 1 ≤ j ∧ j ≤ 128 ∧ (j = 128 ∨ j = 64 ∨ j = 32 ∨ j = 16 ∨ j = 8 ∨ j = 4 ∨ j = 2 ∨ j = 1))), fun _ c => c.toNatClampNeg, ⟨0, 256, rfl, rfl, by omega, by omega, Or.inr ⟨by omega, by omega, Or.inr ⟨128, by omega, by omega, by omega, Or.inl rfl⟩⟩⟩, ?_⟩
  rintro r c ⟨a, k, rfl, rfl, h1, h2, h3⟩
  have hk : k ≤ 256 := by rcases h3 with h3 | ⟨_, _, h3 | ⟨j, h3⟩⟩ <;> omega
  refine pk_le k 0 (fun z => ?_) (fun z => ?_)
  · obtain rfl : k = 0 := by omega
    rcases h3 with ⟨-, h3⟩ | ⟨h3, h4, h5⟩
    · exact h a h1 h3 h2
    · rcases h5 with h5 | ⟨j, h5⟩ <;> omega
  · rintro t rfl
    rw [nI_add, pk_mul]
    have hsz : (a + k) * (a + k) < 2 ^ 31 := by
      have : (a + k) * (a + k) ≤ 1000 * 1000 := Nat.mul_le_mul (by omega) (by omega)
      omega
    rcases h3 with ⟨h3, -⟩ | ⟨h3, h4, h5⟩
    · omega
    refine pk_lt x ((a + k) * (a + k)) (fun q => ?_) (fun q => ?_)
    · rintro c2 rfl
      rw [show (2 : Int32) = nI 2 from rfl, pk_div (by omega) (by omega) (by omega)]
      refine ⟨⟨a, k / 2, rfl, rfl, h1, h2, ?_⟩, ?_⟩
      · rcases h5 with rfl | ⟨j, rfl, hj1, hj2, hj⟩
        · exact Or.inl ⟨by omega, q⟩
        · rw [Nat.mul_div_cancel_left j (by omega)]
          refine Or.inr ⟨q, by omega, ?_⟩
          rcases hj with rfl | rfl | rfl | rfl | rfl | rfl | rfl | rfl
          · exact Or.inr ⟨64, by omega⟩
          · exact Or.inr ⟨32, by omega⟩
          · exact Or.inr ⟨16, by omega⟩
          · exact Or.inr ⟨8, by omega⟩
          · exact Or.inr ⟨4, by omega⟩
          · exact Or.inr ⟨2, by omega⟩
          · exact Or.inr ⟨1, by omega⟩
          · exact Or.inl rfl
      · rw [nI_clamp (by omega), nI_clamp (by omega)]; omega
    · rintro c2 rfl
      rw [show (2 : Int32) = nI 2 from rfl, pk_div (by omega) (by omega) (by omega)]
      refine ⟨⟨a + k, k / 2, rfl, rfl, q, ?_, ?_⟩, ?_⟩
      · have : a + k < 512 := by
          rcases Nat.lt_or_ge (a + k) 512 with z | z
          · exact z
          · have : 512 * 512 ≤ (a + k) * (a + k) := Nat.mul_le_mul z z
            omega
        exact this
      · rcases h5 with rfl | ⟨j, rfl, hj1, hj2, hj⟩
        · exact Or.inl ⟨by omega, by rw [show a + 1 + 1 = a + 2 * 1 by omega]; exact h3⟩
        · rw [Nat.mul_div_cancel_left j (by omega)]
          refine Or.inr ⟨by rw [show a + 2 * j + 2 * j = a + 2 * (2 * j) by omega]; exact h3, by omega, ?_⟩
          rcases hj with rfl | rfl | rfl | rfl | rfl | rfl | rfl | rfl
          · exact Or.inr ⟨64, by omega⟩
          · exact Or.inr ⟨32, by omega⟩
          · exact Or.inr ⟨16, by omega⟩
          · exact Or.inr ⟨8, by omega⟩
          · exact Or.inr ⟨4, by omega⟩
          · exact Or.inr ⟨2, by omega⟩
          · exact Or.inr ⟨1, by omega⟩
          · exact Or.inl rfl
      · rw [nI_clamp (by omega), nI_clamp (by omega)]; omega
theorem s_find {bo mo se a : Int32} {F : Nat} {names : Nat → Int32} {Q : Int32 → Prop} (hF : F ≤ 12) (h0 : (∀ j, j < F → names j ≠ a) → Q (-1)) (h1 : ∀ j, j < F → names j = a → (∀ i, i < j → names i ≠ a) → Q (nI j)) : wX3_find bo mo se (nI F) names a Q := by
  unfold wX3_find
  refine ⟨fun x => ∃ j : Nat, j ≤ F ∧ x = nI j ∧ ∀ i, i < j → names i ≠ a, fun x => F - x.toNatClampNeg, ⟨0, by omega, rfl, fun i hi => by omega⟩, ?_⟩
  rintro x ⟨j, hj, rfl, hn⟩
  refine pk_le F j (fun z => h0 (fun i hi => hn i (by omega))) (fun z => ⟨pk_in j 12 (by omega), ?_⟩)
  rw [nI_clamp (show j < 2 ^ 31 by omega), nI_1]
  refine ⟨fun hne => ⟨⟨j + 1, by omega, rfl, fun i hi => ?_⟩, by rw [nI_clamp (by omega)]; omega⟩, fun he => h1 j z he hn⟩
  rcases Nat.lt_or_ge i j with q | q
  · exact hn i q
  · have : i = j := by omega
    subst this; exact hne
theorem s_namedAt {th ta li si at_ pl so va fa fp lf lp un hi ro ar iS bl dr : Int32} {a fr : Int32} {F p : Nat} {name : Nat → Int32} {Q : Int32 → Prop} (hfr : fr = nI p) (hp : p + F ≤ 24) (h0 : (∀ j, j < F → name (p + j) ≠ a) → Q (-1)) (h1 : ∀ j, j < F → name (p + j) = a → (∀ i, i < j → name (p + i) ≠ a) → Q (nI j)) : wX11_namedAt th ta li si at_ pl so va fa fp lf lp un hi ro ar iS bl dr name fr (nI F) a Q := by
  unfold wX11_namedAt
  subst hfr
  refine ⟨fun x => ∃ j : Nat, j ≤ F ∧ x = nI j ∧ ∀ i, i < j → name (p + i) ≠ a, fun x => F - x.toNatClampNeg, ⟨0, by omega, rfl, fun i hi => by omega⟩, ?_⟩
  rintro x ⟨j, hj, rfl, hn⟩
  refine pk_le F j (fun z => h0 (fun i hi => hn i (by omega))) (fun z => ?_)
  rw [nI_add]
  refine ⟨pk_in (p + j) 24 (by omega), ?_⟩
  rw [nI_clamp (show p + j < 2 ^ 31 by omega), nI_1]
  refine ⟨fun hne => ⟨⟨j + 1, by omega, rfl, fun i hi => ?_⟩, by rw [nI_clamp (by omega), nI_clamp (by omega)]; omega⟩, fun he => h1 j z he hn⟩
  rcases Nat.lt_or_ge i j with q | q
  · exact hn i q
  · have : i = j := by omega
    subst this; exact hne
