/-! PURE: the class reads a text, whole -/
theorem nmC_b {b : Nat → Int32} {s e : Nat} (h6 : e - s ≤ 6) (hl : ∀ i, s ≤ i → i < e → ltr (b i)) : nmC b s e < 2 ^ 30 := by
  have h1 := uW_b (b := b) (s := s) (k := e - s) (fun i hi => hl _ (by omega) (by omega))
  have h2 : uW b s (e - s) * 32 ^ (6 - (e - s)) < 32 ^ (e - s) * 32 ^ (6 - (e - s)) := Nat.mul_lt_mul_of_pos_right h1 (Nat.pow_pos (by omega))
  rw [← Nat.pow_add, show e - s + (6 - (e - s)) = 6 by omega] at h2
  exact h2
theorem ts_nm {b so st co : Nat → Int32} {n T : Nat} {pos s : Nat → Nat} (h : tsR b n T so st co pos s) : ∀ t, tkS T so t = 4 → ¬ tkS T co t = -1 := by
  intro t
  by_cases c : t < T
  case neg => rw [tkS, if_neg c]; exact fun e => absurd e (by decide)
  rw [tkS, if_pos c, tkS, if_pos c]
  intro e
  obtain ⟨-, -, -, -, -, q⟩ := h.2 t c
  rcases q with ⟨-, -, q⟩ | ⟨-, -, -, q⟩
  · rw [e] at q; exact absurd q (by decide)
  · rcases q with ⟨-, -, l3, -, l5⟩ | ⟨-, -, -, -, q, -⟩ | ⟨-, -, q⟩ | ⟨-, -, -, -, -, -, q, -⟩ | ⟨-, -, -, -, -, q⟩
    · rcases l5 with ⟨w, hw, -, -, q⟩ | ⟨-, ⟨l6, -, q⟩ | ⟨-, q⟩⟩
      · rw [e] at q
        have := (nI_eq (a := 4) (b := 10 + w) (by omega) (by omega)).mp q
        omega
      · rw [q]
        have := nmC_b l6 l3
        exact nI_m1 (by omega)
      · rw [e] at q; exact absurd q (by decide)
    · rw [e] at q; exact absurd q (by decide)
    · rw [e] at q; exact absurd q (by decide)
    · rw [e] at q; exact absurd q (by decide)
    · rw [e] at q; exact absurd q (by decide)
def s70 : Nat → Int32 := fun j => if j = 0 then 1000 else if j = 1 then 1000003 else 0
set_option maxHeartbeats 1000000 in
theorem c_read {li fa pl tok o le tk at_ bd mo sd fu : Int32} {bytes b sorts starts contents N0 nm0 K0 A0 B0 D0 C0 nd0 : Nat → Int32} {fd n : Nat} {Q : Int32 → Int32 → Int32 → Int32 → Int32 → Int32 → Int32 → Int32 → Int32 → Int32 → (Nat → Int32) → (Nat → Int32) → (Nat → Int32) → Int32 → Int32 → Int32 → Int32 → (Nat → Int32) → (Nat → Int32) → (Nat → Int32) → (Nat → Int32) → (Nat → Int32) → (Nat → Int32) → (Nat → Int32) → (Nat → Int32) → Prop} (hfd : fd ≤ 700) (hn : n ≤ fd) (hb : ∀ i, i < n → bytes i = b i) (hQ : ∀ T so st co pos s, T ≤ n → tsR b n T so st co pos s → pos T ≤ n → (∀ i, pos T ≤ i → i < n → bl (b i)) → ∀ nm K A B D C N, frR nm K A B D C N → (∀ k F S o t nd', k ≤ 701 → trR (tkS T so) (tkS T co) k 6 (mkS nm K A B D C N s70) 0 0 F S o t → stOK F S nd' → tkS T so t = 0 → ∀ tok', Q 1 (nI k) 0 (-1) tok' o 0 (nI n) (nI T) (nI n) so st co (S 7 0) (S 7 1) (S 7 2) (nI F) (S 6) (S 0) (S 1) (S 2) (S 3) (S 4) (S 5) nd') ∧ (∀ k F S o t f t', k ≤ 701 → trR (tkS T so) (tkS T co) k 6 (mkS nm K A B D C N s70) 0 0 F S o t → ¬ tkS T so t = 0 → lnB (tkS T so) (tkS T co) F S o t f t' → ∀ l' tok' o' b' m' s' fu' r6 r0 r1 r2 r3 r4 r5 nd', Q 0 l' (nI f) (tkP T n st t') tok' o' 0 (nI n) (nI T) (nI n) so st co b' m' s' fu' r6 r0 r1 r2 r3 r4 r5 nd')) : wX5_read li fa pl tok o (nI fd) le tk at_ bytes sorts starts contents bd mo sd fu N0 nm0 K0 A0 B0 D0 C0 nd0 (nI n) Q := by
  unfold wX5_read
  refine ⟨_, s_cutC hfd hn hb (fun T so st co pos s hTn hts hpT hbl => ?_), fun _ _ _ _ _ _ _ h => h⟩
  refine ⟨_, c_reset (fun N nm K A B D C nd hfr hnd => ?_), fun _ _ _ _ _ _ _ _ _ _ _ _ h => h⟩
  have hT : T ≤ 700 := by omega
  have hnm := ts_nm hts
  obtain ⟨hQ1, hQ2⟩ := hQ T so st co pos s hTn hts hpT hbl nm K A B D C N hfr
  refine ⟨fun C' D' A' K' nm' nd' N' B' l f p tk' o' bd' mo' sd' fu' x => (∃ k F S t, (k ≤ n + 1 ∧ k ≤ t ∧ t ≤ 6 * k) ∧ trR (tkS T so) (tkS T co) k 6 (mkS nm K A B D C N s70) 0 0 F S o' t ∧ stOK F S nd' ∧ (C' = S 5 ∧ D' = S 4 ∧ A' = S 2 ∧ K' = S 1 ∧ nm' = S 0 ∧ N' = S 6 ∧ B' = S 3) ∧ (l = nI k ∧ f = 0 ∧ p = -1 ∧ tk' = nI t ∧ bd' = S 7 0 ∧ mo' = S 7 1 ∧ sd' = S 7 2 ∧ fu' = nI F ∧ x = nI k)) ∨ (∃ k F S o1 t fl t', k ≤ n ∧ trR (tkS T so) (tkS T co) k 6 (mkS nm K A B D C N s70) 0 0 F S o1 t ∧ ¬ tkS T so t = 0 ∧ lnB (tkS T so) (tkS T co) F S o1 t fl t' ∧ f = nI fl ∧ p = tkP T n st t' ∧ x = nI (k + 1)), fun _ _ _ _ _ _ _ _ _ _ _ _ _ _ _ _ _ x => 705 - x.toNatClampNeg, Or.inl ⟨0, 6, mkS nm K A B D C N s70, 0, ⟨by omega, by omega, by omega⟩, ⟨rfl, rfl, rfl, rfl⟩, st_0 hfr hnd, ⟨rfl, rfl, rfl, rfl, rfl, rfl, rfl⟩, ⟨rfl, rfl, rfl, rfl, rfl, rfl, rfl, rfl, rfl⟩⟩, ?_⟩
  rintro C' D' A' K' nm' nd' N' B' l f p tk' o' bd' mo' sd' fu' x hI
  rcases hI with ⟨k, F, S, t, ⟨k1, k2, k3⟩, htr, hok, ⟨rfl, rfl, rfl, rfl, rfl, rfl, rfl⟩, ⟨rfl, rfl, rfl, rfl, rfl, rfl, rfl, rfl, rfl⟩⟩ | ⟨k, F, S, o1, t, fl, t', k1, htr, hne, hln, rfl, rfl, rfl⟩
  · refine pk_lt n k (fun z => b0 (hQ1 k F S o' t nd' (by omega) htr hok (by rw [tkS, if_neg (by omega)]) _)) (fun z => b0 ?_)
    refine ⟨_, c_sortOf hT (by omega) (br_c (fun e => b0 (hQ1 k F S o' t nd' (by omega) htr hok e _)) (fun e => ?_)), fun _ h => h⟩
    refine ⟨_, c_line hT (by omega) hnm hok (fun F' S' o2 u nd2 q1 q2 => c1 ?_) (fun f t' q o2 b' m' s' fu2 r0 r1 r2 r3 r4 r5 nd2 r6 => c0 ?_), fun _ _ _ _ _ _ _ _ _ _ _ _ _ _ _ _ _ h => h⟩
    · have hu := bdG_u q1
      refine ⟨_, c_takeStop (co := co) hT (by omega) (fun q3 => c1 ?_) (fun q3 => c0 ?_) rfl, fun _ _ _ _ h => h⟩
      · rw [nI_1, nI_1]
        rintro l2 rfl t4 rfl
        exact ⟨Or.inl ⟨k + 1, F', S', u + 2, ⟨by omega, by omega, by omega⟩, tr_snoc e ⟨u, q1, q3, rfl⟩ _ _ _ _ _ htr, q2, ⟨rfl, rfl, rfl, rfl, rfl, rfl, rfl⟩, ⟨rfl, rfl, rfl, rfl, rfl, rfl, rfl, rfl, rfl⟩⟩, ms_up (by omega) (by omega)⟩
      · rw [nI_1]
        exact ⟨Or.inr ⟨k, F, S, o', t, 1, u + 1, by omega, htr, e, Or.inr ⟨F', S', o2, u, q1, q3, rfl, rfl⟩, rfl, rfl, rfl⟩, ms_up (by omega) (by omega)⟩
    · rw [nI_1]
      exact ⟨Or.inr ⟨k, F, S, o', t, f, t', by omega, htr, e, Or.inl q, rfl, rfl, rfl⟩, ms_up (by omega) (by omega)⟩
  · have hf := lnB_f hln
    have hne0 : ¬ nI fl = 0 := nI_ne0 (by omega) (by omega)
    have fin := fun l' tok' o' b' m' s' fu' r6 r0 r1 r2 r3 r4 r5 nd' => hQ2 k F S o1 t fl t' (by omega) htr hne hln l' tok' o' b' m' s' fu' r6 r0 r1 r2 r3 r4 r5 nd'
    exact pk_lt n (k + 1) (fun z => ⟨fun _ => fin _ _ _ _ _ _ _ _ _ _ _ _ _ _ _, fun w => absurd w hne0⟩) (fun z => ⟨fun _ => ⟨fun _ => fin _ _ _ _ _ _ _ _ _ _ _ _ _ _ _, fun w => absurd w hne0⟩, fun w => absurd w hne0⟩)
