/-! PURE: the class's reader -/
theorem nu_nat {SO CO : Nat → Int32} {a b t : Nat} (ha : a < 2 ^ 31) (hb : b < 2 ^ 31) (h : nuG SO CO (nI a) (nI b) t) : ∃ k, a ≤ k ∧ k ≤ b ∧ CO t = nI k := by
  obtain ⟨-, h1, h2⟩ := h
  obtain ⟨k, k1, k2, e⟩ := ge_of ha h1
  rw [e, nI_leI k2 hb] at h2
  exact ⟨k, k1, h2, e⟩
theorem c_setting {fed at_ li fa pl o : Int32} {n T t : Nat} {so st co : Nat → Int32} {bd mo sd fu a1 : Int32} {F j : Nat} {S : Nat → Nat → Int32} {Q : Int32 → Int32 → Int32 → Int32 → Int32 → Int32 → Int32 → Int32 → Prop} (hT : T ≤ 700) (ht : t + 10 < 2 ^ 31) (hj : j < 3) (hw : tkS T so t = nI (10 + j)) (ha : a1 = nI (10 + j)) (hg : o &&& bit3 j = 0 → nuG (tkS T so) (tkS T co) (lo3 j) (hi3 j) (t + 1) → Q 1 fa pl (nI (t + 1)) (o ||| bit3 j) (if j = 0 then tkS T co (t + 1) else bd) (if j = 1 then tkS T co (t + 1) else mo) (if j = 2 then tkS T co (t + 1) else sd)) (hb : ∀ f t', bdB (tkS T so) (tkS T co) F S o t f t' → ∀ o' b' m' s', Q 0 (nI f) (tkP T n st t') (nI t') o' b' m' s') : wX5_readSetting li fa pl (nI t) o fed (nI n) (nI T) at_ so co st bd mo sd fu a1 Q := by
  unfold wX5_readSetting
  rw [ha]
  rintro x2 rfl
  refine br_c (fun e => ?_) (fun e => ⟨_, c_refuse hT (by omega) ⟨Or.inl rfl, hb 3 t (Or.inr (Or.inl ⟨j, hj, hw, Or.inl ⟨e, rfl, rfl⟩⟩)) _ _ _ _⟩, fun _ _ _ h => h⟩)
  rintro o2 rfl
  have bad : ∀ f, nuB (tkS T so) (tkS T co) (lo3 j) (hi3 j) (t + 1) f → ∀ o' b' m' s', Q 0 (nI f) (tkP T n st (t + 1)) (nI (t + 1)) o' b' m' s' := fun f q => hb f (t + 1) (Or.inr (Or.inl ⟨j, hj, hw, Or.inr ⟨e, q, rfl⟩⟩))
  have hj3 : j = 0 ∨ j = 1 ∨ j = 2 := by omega
  rcases hj3 with rfl | rfl | rfl
  · exact br_t rfl ⟨_, c_takeNumber hT (by omega) (fun q => b1 ⟨_, c_contentOf hT (by omega) (hg e q), fun _ h => h⟩) (fun f q => b0 (bad f q _ _ _ _)), fun _ _ _ _ h => h⟩
  · exact br_f (by decide) (br_t rfl ⟨_, c_takeNumber hT (by omega) (fun q => b1 ⟨_, c_contentOf hT (by omega) (hg e q), fun _ h => h⟩) (fun f q => b0 (bad f q _ _ _ _)), fun _ _ _ _ h => h⟩)
  · exact br_f (by decide) (br_f (by decide) ⟨_, c_takeNumber hT (by omega) (fun q => b1 ⟨_, c_contentOf hT (by omega) (hg e q), fun _ h => h⟩) (fun f q => b0 (bad f q _ _ _ _)), fun _ _ _ _ h => h⟩)
theorem c_at {fed at_ li fa pl o : Int32} {n T t : Nat} {so st co : Nat → Int32} {bd mo sd : Int32} {F : Nat} {S : Nat → Nat → Int32} {Q : Int32 → Int32 → Int32 → Int32 → (Nat → Int32) → Prop} (hT : T ≤ 700) (ht : t + 10 < 2 ^ 31) (hF : F ≤ 12) (hw : tkS T so t = 14) (hg : ∀ S' u, bdG (tkS T so) (tkS T co) F S o t F S' o u → (∃ d x y, S' = numS S d x y) → Q 1 fa pl (nI u) (S' 6)) (hb : ∀ f t', bdB (tkS T so) (tkS T co) F S o t f t' → ∀ N, Q 0 (nI f) (tkP T n st t') (nI t') N) : wX5_readAt li fa pl (nI t) o fed (nI n) (nI T) at_ so co bd mo sd (nI F) (S 0) st (S 1) (S 6) Q := by
  unfold wX5_readAt
  refine ⟨_, c_function hT (by omega) hF (fun g q => ?_) (fun f q => ⟨fun w => absurd rfl w, fun _ => hb f (t + 1) (Or.inr (Or.inr (Or.inl ⟨hw, Or.inl ⟨q, rfl⟩⟩))) _⟩), fun _ _ _ _ h => h⟩
  have hgF := q.2.1
  have bad : ∀ f t', ((¬ S 1 g = 1 ∧ f = 4 ∧ t' = t + 1) ∨ (S 1 g = 1 ∧ ((nuB (tkS T so) (tkS T co) 1 6 (t + 2) f ∧ t' = t + 2) ∨ (nuG (tkS T so) (tkS T co) 1 6 (t + 2) ∧ ((sgB (tkS T so) (tkS T co) (t + 3) f ∧ t' = t + 3) ∨ (sgG (tkS T so) (tkS T co) (t + 3) ∧ sgB (tkS T so) (tkS T co) (t + 4) f ∧ t' = t + 4)))))) → ∀ N, Q 0 (nI f) (tkP T n st t') (nI t') N := fun f t' r => hb f t' (Or.inr (Or.inr (Or.inl ⟨hw, Or.inr ⟨g, q, r⟩⟩)))
  refine ⟨fun _ => ?_, fun w => absurd w (nI_m1 (by omega))⟩
  by_cases hk : S 1 g = 1
  case neg =>
    refine ⟨_, own_n hF (fun j hj e1 e2 => ?_) (b0 ⟨_, c_refuse hT (by omega) ⟨Or.inl rfl, bad 4 (t + 1) (Or.inl ⟨hk, rfl, rfl⟩) _⟩, fun _ _ _ h => h⟩), fun _ h => h⟩
    have : g = j := (nI_eq (by omega) (by omega)).mp e2
    subst this; exact hk e1
  refine ⟨_, own_y hF hgF hk (b1 ⟨_, c_takeNumber (t := t + 1) hT (by omega) (fun q1 => b1 ⟨_, c_contentOf hT (by omega) ⟨_, ?_, fun _ h => h⟩, fun _ h => h⟩) (fun f q1 => b0 (bad f (t + 2) (Or.inr ⟨hk, Or.inl ⟨q1, rfl⟩⟩) _)), fun _ _ _ _ h => h⟩), fun _ h => h⟩
  obtain ⟨k, k1, k2, ek⟩ := nu_nat (a := 1) (b := 6) (by omega) (by omega) q1
  have ek' : (tkS T co (t + 2)).toNatClampNeg = k := by rw [show t + 2 = t + 1 + 1 from rfl, ek]; exact nI_clamp (by omega)
  unfold wX3_cell
  rw [ek, show ((nI g * 6 + nI k) - 1) * 2 = nI (12 * g + 2 * (k - 1)) from by
    rw [show (6 : Int32) = nI 6 from rfl, show (1 : Int32) = nI 1 from rfl, show (2 : Int32) = nI 2 from rfl, pk_mul, nI_add, pk_sub (by omega), pk_mul]
    congr 1; omega]
  refine ⟨_, c_takeSigned (t := t + 2) hT (by omega) (fun q2 => c1 ?_) (fun f q2 => c0 (bad f (t + 3) (Or.inr ⟨hk, Or.inr ⟨q1, Or.inl ⟨q2, rfl⟩⟩⟩) _)), fun _ _ _ _ h => h⟩
  refine ⟨_, c_takeSigned (t := t + 3) hT (by omega) (fun q3 => b1 ?_) (fun f q3 => b0 (bad f (t + 4) (Or.inr ⟨hk, Or.inr ⟨q1, Or.inr ⟨q2, q3, rfl⟩⟩⟩) _)), fun _ _ _ _ h => h⟩
  rw [show nI (t + 3 + 1) - 1 = nI (t + 3) from nI_pred (t + 3)]
  refine ⟨_, c_contentOf hT (by omega) ⟨vp_in_nI (by omega) (by omega), ?_⟩, fun _ h => h⟩
  rw [nI_clamp (show 12 * g + 2 * (k - 1) < 2 ^ 31 by omega), nI_1, nI_clamp (show 12 * g + 2 * (k - 1) + 1 < 2 ^ 31 by omega)]
  rintro n1 rfl
  refine ⟨_, c_contentOf hT (by omega) ⟨vp_in_nI (by omega) (by omega), ?_⟩, fun _ h => h⟩
  rintro n2 rfl
  have := hg _ (t + 4) (Or.inr (Or.inr (Or.inl ⟨g, hw, q, hk, q1, q2, q3, rfl, rfl, rfl, rfl⟩))) ⟨_, _, _, rfl⟩
  rw [ek'] at this
  exact this
theorem c_own {fed at_ li fa pl o : Int32} {n T t : Nat} {so st co : Nat → Int32} {bd mo sd : Int32} {F : Nat} {S : Nat → Nat → Int32} {nd : Nat → Int32} {Q : Int32 → Int32 → Int32 → Int32 → Int32 → (Nat → Int32) → (Nat → Int32) → (Nat → Int32) → (Nat → Int32) → (Nat → Int32) → (Nat → Int32) → (Nat → Int32) → Prop} (hT : T ≤ 700) (ht : t + 10 < 2 ^ 31) (hnm : ∀ t, tkS T so t = 4 → ¬ tkS T co t = -1) (hok : stOK F S nd) (hw : tkS T so t = 13) (hg : ∀ S' u nd', bdG (tkS T so) (tkS T co) F S o t (F + 1) S' o u → stOK (F + 1) S' nd' → S' 6 = S 6 → S' 7 = S 7 → Q 1 fa pl (nI u) (nI (F + 1)) (S' 0) (S' 1) (S' 2) (S' 3) (S' 4) (S' 5) nd') (hb : ∀ f t', bdB (tkS T so) (tkS T co) F S o t f t' → ∀ fu r0 r1 r2 r3 r4 r5 nd', Q 0 (nI f) (tkP T n st t') (nI t') fu r0 r1 r2 r3 r4 r5 nd') : wX5_readOwn li fa pl (nI t) o bd mo sd (nI F) fed (nI n) (nI T) at_ so co (S 0) st (S 1) (S 2) (S 3) (S 4) (S 5) nd Q := by
  unfold wX5_readOwn
  have hF2 := hok.1.2
  refine ⟨_, c_newName hT (by omega) hF2 (fun q => ⟨fun _ => ?_, fun w => absurd w (hnm _ q.2.1)⟩) (fun f t' q => ⟨fun w => absurd rfl w, fun _ => hb f t' (Or.inr (Or.inr (Or.inr (Or.inl ⟨Or.inl hw, q⟩)))) _ _ _ _ _ _ _ _⟩), fun _ _ _ _ h => h⟩
  have hF := q.1
  have n1 : ((1 : Int32) = 2 ∨ (1 : Int32) = 3 ∨ (1 : Int32) = 4 ∨ (1 : Int32) = 5) → False := by decide
  have n2 : ((1 : Int32) = 2 ∨ (1 : Int32) = 4) → False := by decide
  refine ⟨_, c_add hF hok.2.2.1 (Or.inl rfl) (Or.inl rfl) (fun w => (n1 w).elim) (fun w => (n2 w).elim) (fun nd' hn' => ⟨vp_in_nI hF (by omega), ?_⟩), fun _ _ _ _ _ _ _ _ _ h => h⟩
  rw [nI_clamp (show F < 2 ^ 31 by omega), fa_upd_twice]
  rintro d2 rfl
  exact hg _ (t + 1) nd' (Or.inr (Or.inl ⟨hw, q, rfl, rfl, rfl, rfl⟩)) (st_add hok hF (Or.inl rfl) (fun w => (n1 w).elim) (fun w => (n2 w).elim) ⟨1, by omega, rfl⟩ (fun w => absurd w (by decide)) hn') rfl rfl
theorem c_over {fed at_ li fa pl o : Int32} {n T t : Nat} {so st co : Nat → Int32} {bd mo sd : Int32} {F : Nat} {S : Nat → Nat → Int32} {nd : Nat → Int32} {Q : Int32 → Int32 → Int32 → Int32 → Int32 → (Nat → Int32) → (Nat → Int32) → (Nat → Int32) → (Nat → Int32) → (Nat → Int32) → (Nat → Int32) → (Nat → Int32) → Prop} (hT : T ≤ 700) (ht : t + 10 < 2 ^ 31) (hnm : ∀ t, tkS T so t = 4 → ¬ tkS T co t = -1) (hok : stOK F S nd) (hw : tkS T so t = 16) (hg : ∀ S' u nd', bdG (tkS T so) (tkS T co) F S o t (F + 1) S' o u → stOK (F + 1) S' nd' → S' 6 = S 6 → S' 7 = S 7 → Q 1 fa pl (nI u) (nI (F + 1)) (S' 0) (S' 1) (S' 2) (S' 3) (S' 4) (S' 5) nd') (hb : ∀ f t', bdB (tkS T so) (tkS T co) F S o t f t' → ∀ fu r0 r1 r2 r3 r4 r5 nd', Q 0 (nI f) (tkP T n st t') (nI t') fu r0 r1 r2 r3 r4 r5 nd') : wX5_readOver li fa pl (nI t) o bd mo sd (nI F) fed (nI n) (nI T) at_ so co (S 0) st (S 1) (S 2) (S 3) (S 4) (S 5) nd Q := by
  unfold wX5_readOver
  have hF2 := hok.1.2
  refine ⟨_, c_newName hT (by omega) hF2 (fun q => ⟨fun _ => ?_, fun w => absurd w (hnm _ q.2.1)⟩) (fun f t' q => ⟨fun w => absurd rfl w, fun _ => hb f t' (Or.inr (Or.inr (Or.inr (Or.inl ⟨Or.inr (Or.inr (Or.inl hw)), q⟩)))) _ _ _ _ _ _ _ _⟩), fun _ _ _ _ h => h⟩
  have hF := q.1
  refine ⟨_, c_function (t := t + 1) hT (by omega) hF2 (fun g qg => ⟨fun _ => ?_, fun w => absurd w (nI_m1 (by have := qg.2.1; omega))⟩) (fun f qf => ⟨fun w => absurd rfl w, fun _ => hb f (t + 2) (Or.inr (Or.inr (Or.inr (Or.inr ⟨q, Or.inl ⟨Or.inr (Or.inl hw), qf, rfl⟩⟩)))) _ _ _ _ _ _ _ _⟩), fun _ _ _ _ h => h⟩
  have hgF := qg.2.1
  have n2 : ((3 : Int32) = 2 ∨ (3 : Int32) = 4) → False := by decide
  refine ⟨_, c_add hF hok.2.2.1 (Or.inr ⟨g, hgF, rfl⟩) (Or.inl rfl) (fun _ => ⟨g, hgF, rfl⟩) (fun w => (n2 w).elim) (fun nd' hn' => ⟨vp_in_nI (by omega) (by omega), ?_⟩), fun _ _ _ _ _ _ _ _ _ h => h⟩
  rw [nI_clamp (show F < 2 ^ 31 by omega), nI_clamp (show g < 2 ^ 31 by omega), pk_un (by omega), pk_un (by omega)]
  rintro e1 rfl
  refine ⟨vp_in_nI hF (by omega), ?_⟩
  rw [fa_upd_twice]
  rintro d2 rfl e2 rfl
  rw [fa_upd_twice]
  rintro c2 rfl
  exact hg _ (t + 2) nd' (Or.inr (Or.inr (Or.inr (Or.inr (Or.inl ⟨g, hw, q, qg, rfl, rfl, rfl, rfl⟩))))) (st_add hok hF (Or.inr (Or.inr (Or.inl rfl))) (fun _ => ⟨g, hgF, rfl⟩) (fun w => (n2 w).elim) (hok.2.2.2.2.1 g hgF) (fun w => absurd w (by decide)) hn') rfl rfl
theorem c_twist {fed at_ li fa pl o : Int32} {n T t : Nat} {so st co : Nat → Int32} {bd mo sd : Int32} {F : Nat} {S : Nat → Nat → Int32} {nd : Nat → Int32} {Q : Int32 → Int32 → Int32 → Int32 → Int32 → (Nat → Int32) → (Nat → Int32) → (Nat → Int32) → (Nat → Int32) → (Nat → Int32) → (Nat → Int32) → (Nat → Int32) → Prop} (hT : T ≤ 700) (ht : t + 10 < 2 ^ 31) (hnm : ∀ t, tkS T so t = 4 → ¬ tkS T co t = -1) (hok : stOK F S nd) (hw : tkS T so t = 18) (hg : ∀ S' u nd', bdG (tkS T so) (tkS T co) F S o t (F + 1) S' o u → stOK (F + 1) S' nd' → S' 6 = S 6 → S' 7 = S 7 → Q 1 fa pl (nI u) (nI (F + 1)) (S' 0) (S' 5) (S' 1) (S' 2) (S' 3) (S' 4) nd') (hb : ∀ f t', bdB (tkS T so) (tkS T co) F S o t f t' → ∀ fu r0 r1 r2 r3 r4 r5 nd', Q 0 (nI f) (tkP T n st t') (nI t') fu r0 r1 r2 r3 r4 r5 nd') : wX5_readTwist li fa pl (nI t) o bd mo sd (nI F) fed (nI n) (nI T) at_ so co (S 0) st (S 5) (S 1) (S 2) (S 3) (S 4) nd Q := by
  unfold wX5_readTwist
  have hF2 := hok.1.2
  refine ⟨_, c_newName hT (by omega) hF2 (fun q => ⟨fun _ => ?_, fun w => absurd w (hnm _ q.2.1)⟩) (fun f t' q => ⟨fun w => absurd rfl w, fun _ => hb f t' (Or.inr (Or.inr (Or.inr (Or.inl ⟨Or.inr (Or.inr (Or.inr (Or.inr hw))), q⟩)))) _ _ _ _ _ _ _ _⟩), fun _ _ _ _ h => h⟩
  have hF := q.1
  refine ⟨_, c_function (t := t + 1) hT (by omega) hF2 (fun g qg => ⟨fun _ => ?_, fun w => absurd w (nI_m1 (by have := qg.2.1; omega))⟩) (fun f qf => ⟨fun w => absurd rfl w, fun _ => hb f (t + 2) (Or.inr (Or.inr (Or.inr (Or.inr ⟨q, Or.inl ⟨Or.inr (Or.inr (Or.inr hw)), qf, rfl⟩⟩)))) _ _ _ _ _ _ _ _⟩), fun _ _ _ _ h => h⟩
  have hgF := qg.2.1
  refine ⟨vp_in_nI (by omega) (by omega), ?_⟩
  rw [nI_clamp (show g < 2 ^ 31 by omega)]
  refine br_c (fun hc => ?_) (fun hc => ⟨_, c_refuse (t := t + 2) hT (by omega) ⟨Or.inl rfl, hb 2 (t + 2) (Or.inr (Or.inr (Or.inr (Or.inr ⟨q, Or.inr ⟨g, qg, Or.inr (Or.inr (Or.inl ⟨hw, hc, rfl, rfl⟩))⟩⟩)))) _ _ _ _ _ _ _ _⟩, fun _ _ _ h => h⟩)
  refine ⟨_, c_takeNumber (t := t + 2) hT (by omega) (fun q1 => b1 ?_) (fun f q1 => b0 (hb f (t + 3) (Or.inr (Or.inr (Or.inr (Or.inr ⟨q, Or.inr ⟨g, qg, Or.inr (Or.inr (Or.inr ⟨hw, hc, q1, rfl⟩))⟩⟩)))) _ _ _ _ _ _ _ _)), fun _ _ _ _ h => h⟩
  have n2 : ((5 : Int32) = 2 ∨ (5 : Int32) = 4) → False := by decide
  refine ⟨_, c_add hF hok.2.2.1 (Or.inr ⟨g, hgF, rfl⟩) (Or.inl rfl) (fun _ => ⟨g, hgF, rfl⟩) (fun w => (n2 w).elim) (fun nd' hn' => ⟨vp_in_nI (by omega) (by omega), ?_⟩), fun _ _ _ _ _ _ _ _ _ h => h⟩
  rw [nI_clamp (show F < 2 ^ 31 by omega), pk_un (show g ≠ F by omega)]
  rintro e1 rfl
  refine ⟨vp_in_nI hF (by omega), ?_⟩
  rw [fa_upd_twice]
  rintro d2 rfl
  have hc2 : (if tkS T co (t + 3) = 3 then (1 : Int32) else 2) = 1 ∨ (if tkS T co (t + 3) = 3 then (1 : Int32) else 2) = 2 := by
    by_cases e : tkS T co (t + 3) = 3
    · rw [if_pos e]; exact Or.inl rfl
    · rw [if_neg e]; exact Or.inr rfl
  have fin := hg _ (t + 3) nd' (Or.inr (Or.inr (Or.inr (Or.inr (Or.inr (Or.inr ⟨g, hw, q, qg, hc, q1, rfl, rfl, rfl, rfl⟩)))))) (st_add hok hF (Or.inr (Or.inr (Or.inr (Or.inr rfl)))) (fun _ => ⟨g, hgF, rfl⟩) (fun w => (n2 w).elim) (hok.2.2.2.2.1 g hgF) (fun _ => hc2) hn') rfl rfl
  refine ⟨_, c_contentOf (t := t + 3) hT (by omega) ⟨fun e => ⟨vp_in_nI hF (by omega), ?_⟩, fun e => ⟨vp_in_nI hF (by omega), ?_⟩⟩, fun _ h => h⟩
  · rw [fa_upd_twice]
    rintro c2 rfl
    rw [if_neg e] at fin
    exact fin
  · rw [fa_upd_twice]
    rintro c2 rfl
    rw [if_pos e] at fin
    exact fin
theorem dg_mx {x y : Int32} (hx : ∃ k, k ≤ 3 ∧ x = nI k) (hy : ∃ k, k ≤ 3 ∧ y = nI k) : ∃ k, k ≤ 3 ∧ (if x < y then y else x) = nI k := by
  by_cases c : x < y
  · rw [if_pos c]; exact hy
  · rw [if_neg c]; exact hx
theorem dg_sum {x y : Int32} (hx : ∃ k, k ≤ 3 ∧ x = nI k) (hy : ∃ k, k ≤ 3 ∧ y = nI k) (h : ¬ 3 < x + y) : ∃ k, k ≤ 3 ∧ x + y = nI k := by
  obtain ⟨a, ha, rfl⟩ := hx
  obtain ⟨b, hb, rfl⟩ := hy
  rw [nI_add] at h ⊢
  refine ⟨a + b, ?_, rfl⟩
  rcases Nat.lt_or_ge 3 (a + b) with w | w
  · exact absurd (nI_lt (a := 3) w (by omega)) h
  · exact w
theorem c_pair {fed at_ li fa pl o : Int32} {n T t : Nat} {so st co : Nat → Int32} {bd mo sd a1 : Int32} {F : Nat} {S : Nat → Nat → Int32} {nd : Nat → Int32} {Q : Int32 → Int32 → Int32 → Int32 → Int32 → (Nat → Int32) → (Nat → Int32) → (Nat → Int32) → (Nat → Int32) → (Nat → Int32) → (Nat → Int32) → (Nat → Int32) → Prop} (hT : T ≤ 700) (ht : t + 10 < 2 ^ 31) (hnm : ∀ t, tkS T so t = 4 → ¬ tkS T co t = -1) (hok : stOK F S nd) (hw : tkS T so t = 15 ∨ tkS T so t = 17) (ha1 : a1 = tkS T so t) (hg : ∀ S' u nd', bdG (tkS T so) (tkS T co) F S o t (F + 1) S' o u → stOK (F + 1) S' nd' → S' 6 = S 6 → S' 7 = S 7 → Q 1 fa pl (nI u) (nI (F + 1)) (S' 0) (S' 4) (S' 5) (S' 1) (S' 2) (S' 3) nd') (hb : ∀ f t', bdB (tkS T so) (tkS T co) F S o t f t' → ∀ fu r0 r1 r2 r3 r4 r5 nd', Q 0 (nI f) (tkP T n st t') (nI t') fu r0 r1 r2 r3 r4 r5 nd') : wX5_readPair li fa pl (nI t) o bd mo sd (nI F) fed (nI n) (nI T) at_ so co (S 0) st (S 4) (S 5) (S 1) (S 2) (S 3) nd a1 Q := by
  unfold wX5_readPair
  have hF2 := hok.1.2
  refine ⟨_, c_newName hT (by omega) hF2 (fun q => ⟨fun _ => ?_, fun w => absurd w (hnm _ q.2.1)⟩) (fun f t' q => ⟨fun w => absurd rfl w, fun _ => hb f t' (Or.inr (Or.inr (Or.inr (Or.inl ⟨?_, q⟩)))) _ _ _ _ _ _ _ _⟩), fun _ _ _ _ h => h⟩
  case refine_2 => exact hw.elim (fun e => Or.inr (Or.inl e)) (fun e => Or.inr (Or.inr (Or.inr (Or.inl e))))
  have hF := q.1
  refine ⟨_, c_function (t := t + 1) hT (by omega) hF2 (fun g qg => ⟨fun _ => ?_, fun w => absurd w (nI_m1 (by have := qg.2.1; omega))⟩) (fun f qf => ⟨fun w => absurd rfl w, fun _ => hb f (t + 2) (Or.inr (Or.inr (Or.inr (Or.inr ⟨q, Or.inl ⟨?_, qf, rfl⟩⟩)))) _ _ _ _ _ _ _ _⟩), fun _ _ _ _ h => h⟩
  case refine_2 => exact hw.elim (fun e => Or.inl e) (fun e => Or.inr (Or.inr (Or.inl e)))
  have hgF := qg.2.1
  refine ⟨_, c_function (t := t + 2) hT (by omega) hF2 (fun h qh => ⟨fun _ => ?_, fun w => absurd w (nI_m1 (by have := qh.2.1; omega))⟩) (fun f qf => ⟨fun w => absurd rfl w, fun _ => hb f (t + 3) (Or.inr (Or.inr (Or.inr (Or.inr ⟨q, Or.inr ⟨g, qg, Or.inl ⟨hw, qf, rfl⟩⟩⟩)))) _ _ _ _ _ _ _ _⟩), fun _ _ _ _ h => h⟩
  have hhF := qh.2.1
  have dg := hok.2.2.2.2.1 g hgF
  have dh := hok.2.2.2.2.1 h hhF
  rcases hw with hw | hw
  · refine ⟨fun e => absurd (ha1.trans hw) e, fun _ => ⟨_, ?_, fun _ _ _ _ _ _ _ _ _ h => h⟩⟩
    unfold wX5_addTimes
    refine ⟨_, c_add hF hok.2.2.1 (Or.inr ⟨g, hgF, rfl⟩) (Or.inr ⟨h, hhF, rfl⟩) (fun _ => ⟨g, hgF, rfl⟩) (fun _ => ⟨h, hhF, rfl⟩) (fun nd' hn' => ⟨vp_in_nI (by omega) (by omega), vp_in_nI (by omega) (by omega), ?_⟩), fun _ _ _ _ _ _ _ _ _ h => h⟩
    rw [nI_clamp (show F < 2 ^ 31 by omega), nI_clamp (show g < 2 ^ 31 by omega), nI_clamp (show h < 2 ^ 31 by omega), pk_un (show g ≠ F by omega), pk_un (show h ≠ F by omega), pk_un (show g ≠ F by omega), pk_un (show h ≠ F by omega)]
    rintro m1 rfl
    refine ⟨vp_in_nI hF (by omega), ?_⟩
    rw [fa_upd_twice]
    rintro d2 rfl e2 rfl
    rw [fa_upd_twice]
    rintro c2 rfl
    exact ⟨Or.inr rfl, hg _ (t + 3) nd' (Or.inr (Or.inr (Or.inr (Or.inl ⟨g, h, hw, q, qg, qh, rfl, rfl, rfl, rfl⟩)))) (st_add hok hF (Or.inr (Or.inl rfl)) (fun _ => ⟨g, hgF, rfl⟩) (fun _ => ⟨h, hhF, rfl⟩) (dg_mx dg dh) (fun w => absurd w (by decide)) hn') rfl rfl⟩
  · refine ⟨fun _ => ⟨_, ?_, fun _ _ _ _ _ _ _ _ _ _ _ h => h⟩, fun e => absurd ((ha1.trans hw).symm.trans e) (by decide)⟩
    have bad : (3 < S 4 g + S 4 h ∨ (¬ S 5 g = 0 ∧ ¬ S 5 h = 0)) → ∀ fu r0 r1 r2 r3 r4 r5 nd', Q 0 2 (tkP T n st (t + 3)) (nI (t + 3)) fu r0 r1 r2 r3 r4 r5 nd' := fun r => hb 2 (t + 3) (Or.inr (Or.inr (Or.inr (Or.inr ⟨q, Or.inr ⟨g, qg, Or.inr (Or.inl ⟨hw, ⟨h, qh, r⟩, rfl, rfl⟩)⟩⟩))))
    unfold wX5_addPoint
    refine ⟨vp_in_nI (by omega) (by omega), vp_in_nI (by omega) (by omega), ?_⟩
    rw [nI_clamp (show g < 2 ^ 31 by omega), nI_clamp (show h < 2 ^ 31 by omega)]
    rintro x4 rfl
    refine ⟨S 5 g = 0 ∨ S 5 h = 0, fun x => (x = 0 ∧ (S 5 g = 0 ∨ S 5 h = 0)) ∨ (x = 1 ∧ ¬ S 5 g = 0 ∧ ¬ S 5 h = 0), br_c (fun e => Or.inl e) (fun e => ⟨vp_in_nI (by omega) (by omega), br_c (fun e2 => Or.inr e2) (fun e2 => Or.inr ⟨rfl, e, e2⟩)⟩), fun hJ => Or.inl ⟨rfl, hJ⟩, ?_⟩
    rintro x hx
    refine br_c (fun e => ⟨_, c_refuse (t := t + 3) hT (by omega) ⟨Or.inl rfl, Or.inl rfl, bad (Or.inl e) _ _ _ _ _ _ _ _⟩, fun _ _ _ h => h⟩) (fun e => ?_)
    rcases hx with ⟨rfl, hx⟩ | ⟨rfl, hx⟩
    · refine c0 ⟨_, c_add hF hok.2.2.1 (Or.inr ⟨g, hgF, rfl⟩) (Or.inr ⟨h, hhF, rfl⟩) (fun _ => ⟨g, hgF, rfl⟩) (fun _ => ⟨h, hhF, rfl⟩) (fun nd' hn' => ⟨vp_in_nI hF (by omega), ?_⟩), fun _ _ _ _ _ _ _ _ _ h => h⟩
      rw [nI_clamp (show F < 2 ^ 31 by omega), fa_upd_twice]
      rintro d2 rfl
      refine ⟨vp_in_nI (by omega) (by omega), vp_in_nI (by omega) (by omega), ?_⟩
      rw [pk_un (show g ≠ F by omega), pk_un (show h ≠ F by omega)]
      rintro e2 rfl
      rw [fa_upd_twice]
      rintro c2 rfl
      exact ⟨Or.inr rfl, hg _ (t + 3) nd' (Or.inr (Or.inr (Or.inr (Or.inr (Or.inr (Or.inl ⟨g, h, hw, q, qg, qh, e, hx, rfl, rfl, rfl, rfl⟩)))))) (st_add hok hF (Or.inr (Or.inr (Or.inr (Or.inl rfl)))) (fun _ => ⟨g, hgF, rfl⟩) (fun _ => ⟨h, hhF, rfl⟩) (dg_sum dg dh e) (fun w => absurd w (by decide)) hn') rfl rfl⟩
    · exact c1 ⟨_, c_refuse (t := t + 3) hT (by omega) ⟨Or.inl rfl, Or.inl rfl, bad (Or.inr hx) _ _ _ _ _ _ _ _⟩, fun _ _ _ h => h⟩
