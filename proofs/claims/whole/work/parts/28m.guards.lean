/-! PURE: what arguments may be -/
theorem ge_of {x : Int32} {k : Nat} (hk : k < 2 ^ 31) (h : ¬ x < nI k) : ∃ n, k ≤ n ∧ n < 2 ^ 31 ∧ x = nI n := by
  have h0 : ¬ x < 0 := fun z => h (by rw [fa_lt] at *; rw [nI_toInt hk]; rw [show (0 : Int32).toInt = 0 from by decide] at z; omega)
  obtain ⟨n, hn, rfl⟩ := nI_of h0
  refine ⟨n, ?_, hn, rfl⟩
  rcases Nat.lt_or_ge n k with z | z
  · exact absurd (nI_lt z hk) h
  · exact z
theorem place_y {mo se fu : Int32} {n Bd : Nat} {Q : Int32 → Prop} (hB : Bd ≤ 200000) (h1 : 1 ≤ n) (h2 : n ≤ Bd) (h : Q 1) : wX10_isPlace (nI Bd) mo se fu (nI n) Q := by
  unfold wX10_isPlace
  exact pk_lt n 1 (fun z => by omega) (fun _ => pk_lt Bd n (fun z => by omega) (fun _ => h))
theorem place_n {mo se fu x : Int32} {Bd : Nat} {Q : Int32 → Prop} (hB : Bd ≤ 200000) (hx : ∀ n, 1 ≤ n → n ≤ Bd → x ≠ nI n) (h : Q 0) : wX10_isPlace (nI Bd) mo se fu x Q := by
  unfold wX10_isPlace
  refine ⟨fun _ => h, fun z => ?_⟩
  obtain ⟨n, h1, h2, rfl⟩ := ge_of (k := 1) (by omega) z
  exact pk_lt Bd n (fun _ => h) (fun z2 => absurd rfl (hx n h1 z2))
theorem reach_y {mo se fu : Int32} {n Bd : Nat} {Q : Int32 → Prop} (hB : Bd ≤ 200000) (h2 : n ≤ Bd) (h : Q 1) : wX10_isReach (nI Bd) mo se fu (nI n) Q := by
  unfold wX10_isReach
  exact ⟨fun z => absurd z (nI_pos (by omega)), fun _ => pk_lt Bd n (fun z => by omega) (fun _ => h)⟩
theorem reach_n {mo se fu x : Int32} {Bd : Nat} {Q : Int32 → Prop} (hB : Bd ≤ 200000) (hx : ∀ n, n ≤ Bd → x ≠ nI n) (h : Q 0) : wX10_isReach (nI Bd) mo se fu x Q := by
  unfold wX10_isReach
  refine ⟨fun _ => h, fun z => ?_⟩
  obtain ⟨n, h2, rfl⟩ := nI_of z
  exact pk_lt Bd n (fun _ => h) (fun z2 => absurd rfl (hx n z2))
theorem rest_y {bo se fu : Int32} {r M : Nat} {Q : Int32 → Prop} (hM : M ≤ 1000003) (h2 : r < M) (h : Q 1) : wX10_isRest bo (nI M) se fu (nI r) Q := by
  unfold wX10_isRest
  exact ⟨fun z => absurd z (nI_pos (by omega)), fun _ => pk_le M r (fun z => by omega) (fun _ => h)⟩
theorem rest_n {bo se fu x : Int32} {M : Nat} {Q : Int32 → Prop} (hM : M ≤ 1000003) (hx : ∀ n, n < M → x ≠ nI n) (h : Q 0) : wX10_isRest bo (nI M) se fu x Q := by
  unfold wX10_isRest
  refine ⟨fun _ => h, fun z => ?_⟩
  obtain ⟨n, h2, rfl⟩ := nI_of z
  exact pk_le M n (fun _ => h) (fun z2 => absurd rfl (hx n z2))
theorem isF_y {qth qta qli qsi qat qpl qso qva qfa qfp qlf qlp qun qhi qro qar qiS qbl qdr : Int32} {number : Nat → Int32} {F j : Nat} {Q : Int32 → Prop} (hn : number 3 = nI (F - 6)) (hF : 6 ≤ F) (hF2 : F ≤ 12) (hj : j < F) (h : Q 1) : wX11_isFunction qth qta qli qsi qat qpl qso qva qfa qfp qlf qlp qun qhi qro qar qiS qbl qdr number (nI j) Q := by
  unfold wX11_isFunction
  refine ⟨fun z => absurd z (nI_pos (by omega)), fun _ => ⟨_, ?_, fun _ h => h⟩⟩
  unfold wX11_functions
  rw [hn, show (6 : Int32) + nI (F - 6) = nI F from by rw [show (6 : Int32) = nI 6 from rfl, nI_add]; congr 1; omega]
  exact pk_le F j (fun z => by omega) (fun _ => h)
theorem isF_n {qth qta qli qsi qat qpl qso qva qfa qfp qlf qlp qun qhi qro qar qiS qbl qdr : Int32} {number : Nat → Int32} {x : Int32} {F : Nat} {Q : Int32 → Prop} (hn : number 3 = nI (F - 6)) (hF : 6 ≤ F) (hF2 : F ≤ 12) (hx : ∀ j, j < F → x ≠ nI j) (h : Q 0) : wX11_isFunction qth qta qli qsi qat qpl qso qva qfa qfp qlf qlp qun qhi qro qar qiS qbl qdr number x Q := by
  unfold wX11_isFunction
  refine ⟨fun _ => h, fun z => ⟨_, ?_, fun _ h => h⟩⟩
  obtain ⟨j, hj, rfl⟩ := nI_of z
  unfold wX11_functions
  rw [hn, show (6 : Int32) + nI (F - 6) = nI F from by rw [show (6 : Int32) = nI 6 from rfl, nI_add]; congr 1; omega]
  exact pk_le F j (fun _ => h) (fun z2 => absurd rfl (hx j z2))
theorem isIn_y {qth qta qli qsi qat qpl qso qva qfa qfp qlf qlp qun qhi qro qar qiS qbl qdr : Int32} {sF : Nat → Int32} {n k Bd : Nat} {Q : Int32 → Prop} (hs : sF 0 = nI Bd) (hB : Bd ≤ 200000) (h1 : k ≤ n) (h2 : n ≤ Bd) (h : Q 1) : wX11_isIn qth qta qli qsi qat qpl qso qva qfa qfp qlf qlp qun qhi qro qar qiS qbl qdr sF (nI n) (nI k) Q := by
  unfold wX11_isIn
  rw [hs]
  exact pk_lt n k (fun z => by omega) (fun _ => pk_lt Bd n (fun z => by omega) (fun _ => h))
theorem isIn_n {qth qta qli qsi qat qpl qso qva qfa qfp qlf qlp qun qhi qro qar qiS qbl qdr : Int32} {sF : Nat → Int32} {x : Int32} {k Bd : Nat} {Q : Int32 → Prop} (hs : sF 0 = nI Bd) (hB : Bd ≤ 200000) (hk : k ≤ 200000) (hx : ∀ n, k ≤ n → n ≤ Bd → x ≠ nI n) (h : Q 0) : wX11_isIn qth qta qli qsi qat qpl qso qva qfa qfp qlf qlp qun qhi qro qar qiS qbl qdr sF x (nI k) Q := by
  unfold wX11_isIn
  rw [hs]
  refine ⟨fun _ => h, fun z => ?_⟩
  obtain ⟨n, h1, h2, rfl⟩ := ge_of (by omega) z
  exact pk_lt Bd n (fun _ => h) (fun z2 => absurd rfl (hx n h1 z2))
theorem isRM_y {qth qta qli qsi qat qpl qso qva qfa qfp qlf qlp qun qhi qro qar qiS qbl qdr : Int32} {sF : Nat → Int32} {r M : Nat} {Q : Int32 → Prop} (hs : sF 1 = nI M) (hM : M ≤ 1000003) (h2 : r < M) (h : Q 1) : wX11_isRest qth qta qli qsi qat qpl qso qva qfa qfp qlf qlp qun qhi qro qar qiS qbl qdr sF (nI r) Q := by
  unfold wX11_isRest
  rw [hs]
  exact ⟨fun z => absurd z (nI_pos (by omega)), fun _ => pk_le M r (fun z => by omega) (fun _ => h)⟩
theorem isRM_n {qth qta qli qsi qat qpl qso qva qfa qfp qlf qlp qun qhi qro qar qiS qbl qdr : Int32} {sF : Nat → Int32} {x : Int32} {M : Nat} {Q : Int32 → Prop} (hs : sF 1 = nI M) (hM : M ≤ 1000003) (hx : ∀ n, n < M → x ≠ nI n) (h : Q 0) : wX11_isRest qth qta qli qsi qat qpl qso qva qfa qfp qlf qlp qun qhi qro qar qiS qbl qdr sF x Q := by
  unfold wX11_isRest
  rw [hs]
  refine ⟨fun _ => h, fun z => ?_⟩
  obtain ⟨n, h2, rfl⟩ := nI_of z
  exact pk_le M n (fun _ => h) (fun z2 => absurd rfl (hx n z2))
theorem within_y {n a b : Nat} {Q : Int32 → Prop} (hb : b < 2 ^ 31) (h1 : a ≤ n) (h2 : n ≤ b) (h : Q 1) : wX11_within (nI n) (nI a) (nI b) Q := by
  unfold wX11_within
  exact pk_lt n a (fun z => by omega) (fun _ => pk_lt b n (fun z => by omega) (fun _ => h))
theorem within_n {x : Int32} {a b : Nat} {Q : Int32 → Prop} (ha : a < 2 ^ 31) (hb : b < 2 ^ 31) (hx : ∀ n, a ≤ n → n ≤ b → x ≠ nI n) (h : Q 0) : wX11_within x (nI a) (nI b) Q := by
  unfold wX11_within
  refine ⟨fun _ => h, fun z => ?_⟩
  obtain ⟨n, h1, h2, rfl⟩ := ge_of ha z
  exact pk_lt b n (fun _ => h) (fun z2 => absurd rfl (hx n h1 z2))
theorem ne_of {P : Nat → Prop} {x : Int32} (h : ¬ ∃ n, P n ∧ x = nI n) : ∀ n, P n → x ≠ nI n := fun n h1 h2 => h ⟨n, h1, h2⟩
