/-! PURE: the class reads a text -/
theorem st_set {F j : Nat} {S : Nat → Nat → Int32} {nd SO CO : Nat → Int32} {t : Nat} (hj : j < 3) (h : stOK F S nd) (hv : nuG SO CO (lo3 j) (hi3 j) t) : stOK F (setS S j (CO t)) nd := by
  obtain ⟨h1, h2, h3, h4, h5, ⟨Bd, M, Sd, b1, b2, b3, b4, b5, b6, b7, b8⟩, h7⟩ := h
  refine ⟨h1, h2, h3, h4, h5, ?_, h7⟩
  show ∃ Bd M Sd : Nat, 1 ≤ Bd ∧ Bd ≤ 200000 ∧ 2 ≤ M ∧ M ≤ 1000003 ∧ Sd ≤ 99999 ∧ upd (S 7) j (CO t) 0 = nI Bd ∧ upd (S 7) j (CO t) 1 = nI M ∧ upd (S 7) j (CO t) 2 = nI Sd
  have hj3 : j = 0 ∨ j = 1 ∨ j = 2 := by omega
  rcases hj3 with rfl | rfl | rfl
  · obtain ⟨k, k1, k2, e⟩ := nu_nat (a := 1) (b := 200000) (by omega) (by omega) hv
    exact ⟨k, M, Sd, k1, k2, b3, b4, b5, by rw [pk_us]; exact e, by rw [pk_un (by omega)]; exact b7, by rw [pk_un (by omega)]; exact b8⟩
  · obtain ⟨k, k1, k2, e⟩ := nu_nat (a := 2) (b := 1000003) (by omega) (by omega) hv
    exact ⟨Bd, k, Sd, b1, b2, k1, k2, b5, by rw [pk_un (by omega)]; exact b6, by rw [pk_us]; exact e, by rw [pk_un (by omega)]; exact b8⟩
  · obtain ⟨k, k1, k2, e⟩ := nu_nat (a := 0) (b := 99999) (by omega) (by omega) hv
    exact ⟨Bd, M, k, b1, b2, b3, b4, k2, by rw [pk_un (by omega)]; exact b6, by rw [pk_un (by omega)]; exact b7, by rw [pk_us]; exact e⟩
theorem st_num {F d : Nat} {S : Nat → Nat → Int32} {nd : Nat → Int32} {x y : Int32} (h : stOK F S nd) : stOK F (numS S d x y) nd := h
theorem c_line {fed at_ li fa pl o : Int32} {n T t : Nat} {so st co : Nat → Int32} {F : Nat} {S : Nat → Nat → Int32} {nd : Nat → Int32} {Q : Int32 → Int32 → Int32 → Int32 → Int32 → Int32 → Int32 → Int32 → Int32 → (Nat → Int32) → (Nat → Int32) → (Nat → Int32) → (Nat → Int32) → (Nat → Int32) → (Nat → Int32) → (Nat → Int32) → (Nat → Int32) → Prop} (hT : T ≤ 700) (ht : t + 10 < 2 ^ 31) (hnm : ∀ t, tkS T so t = 4 → ¬ tkS T co t = -1) (hok : stOK F S nd) (hg : ∀ F' S' o' u nd', bdG (tkS T so) (tkS T co) F S o t F' S' o' u → stOK F' S' nd' → Q 1 fa pl (nI u) o' (S' 7 0) (S' 7 1) (S' 7 2) (nI F') (S' 0) (S' 1) (S' 2) (S' 3) (S' 4) (S' 5) nd' (S' 6)) (hb : ∀ f t', bdB (tkS T so) (tkS T co) F S o t f t' → ∀ o' b' m' s' fu r0 r1 r2 r3 r4 r5 nd' r6, Q 0 (nI f) (tkP T n st t') (nI t') o' b' m' s' fu r0 r1 r2 r3 r4 r5 nd' r6) : wX5_readLine li fa pl (nI t) o fed (nI n) (nI T) at_ so co st (S 7 0) (S 7 1) (S 7 2) (nI F) (S 0) (S 1) (S 2) (S 3) (S 4) (S 5) nd (S 6) Q := by
  unfold wX5_readLine
  have hF2 := hok.1.2
  have hg' : ∀ S' u nd', bdG (tkS T so) (tkS T co) F S o t (F + 1) S' o u → stOK (F + 1) S' nd' → S' 6 = S 6 → S' 7 = S 7 → Q 1 fa pl (nI u) o (S 7 0) (S 7 1) (S 7 2) (nI (F + 1)) (S' 0) (S' 1) (S' 2) (S' 3) (S' 4) (S' 5) nd' (S 6) := by
    intro S' u nd' q1 q2 q3 q4
    have := hg (F + 1) S' o u nd' q1 q2
    rw [q3, q4] at this; exact this
  have hat : ∀ S' u, bdG (tkS T so) (tkS T co) F S o t F S' o u → (∃ d x y, S' = numS S d x y) → Q 1 fa pl (nI u) o (S 7 0) (S 7 1) (S 7 2) (nI F) (S 0) (S 1) (S 2) (S 3) (S 4) (S 5) nd (S' 6) := by
    rintro S' u q1 ⟨d, x, y, rfl⟩
    exact hg F (numS S d x y) o u nd q1 hok
  refine ⟨_, c_sortOf hT (by omega) ?_, fun _ h => h⟩
  refine br_c (fun e => ⟨_, c_setting (F := F) (S := S) (j := 0) hT ht (by omega) e e (fun q1 q2 => ⟨Or.inr rfl, hg F (setS S 0 (tkS T co (t + 1))) _ (t + 1) nd (Or.inl ⟨0, by omega, e, q1, q2, rfl, rfl, rfl, rfl⟩) (st_set (by omega) hok q2)⟩) (fun f t' q o' b' m' s' => ⟨Or.inl rfl, hb f t' q _ _ _ _ _ _ _ _ _ _ _ _ _⟩), fun _ _ _ _ _ _ _ _ h => h⟩) (fun e0 => ?_)
  refine br_c (fun e => ⟨_, c_setting (F := F) (S := S) (j := 1) hT ht (by omega) e e (fun q1 q2 => ⟨Or.inr rfl, hg F (setS S 1 (tkS T co (t + 1))) _ (t + 1) nd (Or.inl ⟨1, by omega, e, q1, q2, rfl, rfl, rfl, rfl⟩) (st_set (by omega) hok q2)⟩) (fun f t' q o' b' m' s' => ⟨Or.inl rfl, hb f t' q _ _ _ _ _ _ _ _ _ _ _ _ _⟩), fun _ _ _ _ _ _ _ _ h => h⟩) (fun e1 => ?_)
  refine br_c (fun e => ⟨_, c_setting (F := F) (S := S) (j := 2) hT ht (by omega) e e (fun q1 q2 => ⟨Or.inr rfl, hg F (setS S 2 (tkS T co (t + 1))) _ (t + 1) nd (Or.inl ⟨2, by omega, e, q1, q2, rfl, rfl, rfl, rfl⟩) (st_set (by omega) hok q2)⟩) (fun f t' q o' b' m' s' => ⟨Or.inl rfl, hb f t' q _ _ _ _ _ _ _ _ _ _ _ _ _⟩), fun _ _ _ _ _ _ _ _ h => h⟩) (fun e2 => ?_)
  refine br_c (fun e => ⟨_, c_own hT ht hnm hok e (fun S' u nd' q1 q2 q3 q4 => ⟨Or.inr rfl, hg' S' u nd' q1 q2 q3 q4⟩) (fun f t' q fu r0 r1 r2 r3 r4 r5 nd' => ⟨Or.inl rfl, hb f t' q _ _ _ _ _ _ _ _ _ _ _ _ _⟩), fun _ _ _ _ _ _ _ _ _ _ _ _ h => h⟩) (fun e3 => ?_)
  refine br_c (fun e => ⟨_, c_at hT ht hF2 e (fun S' u q1 q2 => ⟨Or.inr rfl, hat S' u q1 q2⟩) (fun f t' q N => ⟨Or.inl rfl, hb f t' q _ _ _ _ _ _ _ _ _ _ _ _ _⟩), fun _ _ _ _ _ h => h⟩) (fun e4 => ?_)
  refine br_c (fun e => ⟨_, c_pair hT ht hnm hok (Or.inl e) rfl (fun S' u nd' q1 q2 q3 q4 => ⟨Or.inr rfl, hg' S' u nd' q1 q2 q3 q4⟩) (fun f t' q fu r0 r1 r2 r3 r4 r5 nd' => ⟨Or.inl rfl, hb f t' q _ _ _ _ _ _ _ _ _ _ _ _ _⟩), fun _ _ _ _ _ _ _ _ _ _ _ _ h => h⟩) (fun e5 => ?_)
  refine br_c (fun e => ⟨_, c_over hT ht hnm hok e (fun S' u nd' q1 q2 q3 q4 => ⟨Or.inr rfl, hg' S' u nd' q1 q2 q3 q4⟩) (fun f t' q fu r0 r1 r2 r3 r4 r5 nd' => ⟨Or.inl rfl, hb f t' q _ _ _ _ _ _ _ _ _ _ _ _ _⟩), fun _ _ _ _ _ _ _ _ _ _ _ _ h => h⟩) (fun e6 => ?_)
  refine br_c (fun e => ⟨_, c_pair hT ht hnm hok (Or.inr e) rfl (fun S' u nd' q1 q2 q3 q4 => ⟨Or.inr rfl, hg' S' u nd' q1 q2 q3 q4⟩) (fun f t' q fu r0 r1 r2 r3 r4 r5 nd' => ⟨Or.inl rfl, hb f t' q _ _ _ _ _ _ _ _ _ _ _ _ _⟩), fun _ _ _ _ _ _ _ _ _ _ _ _ h => h⟩) (fun e7 => ?_)
  refine br_c (fun e => ⟨_, c_twist hT ht hnm hok e (fun S' u nd' q1 q2 q3 q4 => ⟨Or.inr rfl, hg' S' u nd' q1 q2 q3 q4⟩) (fun f t' q fu r0 r1 r2 r3 r4 r5 nd' => ⟨Or.inl rfl, hb f t' q _ _ _ _ _ _ _ _ _ _ _ _ _⟩), fun _ _ _ _ _ _ _ _ _ _ _ _ h => h⟩) (fun e8 => ?_)
  refine ⟨_, c_refuse hT (by omega) ⟨Or.inl rfl, hb 1 t (Or.inl ⟨fun w hw e => ?_, rfl, rfl⟩) _ _ _ _ _ _ _ _ _ _ _ _ _⟩, fun _ _ _ h => h⟩
  have h9 : w = 0 ∨ w = 1 ∨ w = 2 ∨ w = 3 ∨ w = 4 ∨ w = 5 ∨ w = 6 ∨ w = 7 ∨ w = 8 := by omega
  rcases h9 with rfl | rfl | rfl | rfl | rfl | rfl | rfl | rfl | rfl
  · exact e0 e
  · exact e1 e
  · exact e2 e
  · exact e3 e
  · exact e4 e
  · exact e5 e
  · exact e6 e
  · exact e7 e
  · exact e8 e
/-- known names -/
def knC (f : Nat) : Nat → Int32
  | 0 => 0
  | i + 1 => knC f i * 32 + (if gCh 0 (6 * f + i) = 32 then 0 else (gCh 0 (6 * f + i) - 97) + 1)
theorem c_known {f : Nat} {Q : Int32 → Prop} (hf : f < 6) (h : Q (knC f 6)) : wX3_knownName (nI f) Q := by
  unfold wX3_knownName
  refine ⟨fun x y => ∃ i : Nat, i ≤ 6 ∧ y = nI i ∧ x = knC f i, fun _ y => 7 - y.toNatClampNeg, ⟨0, by omega, rfl, rfl⟩, ?_⟩
  rintro x y ⟨i, hi, rfl, rfl⟩
  refine pk_le 6 i (fun z => ?_) (fun z => ?_)
  · obtain rfl : i = 6 := by omega
    exact h
  · rw [show nI f * 6 + nI i = nI (6 * f + i) from by rw [show (6 : Int32) = nI 6 from rfl, pk_mul, nI_add]; congr 1; omega, nI_clamp (by omega), nI_1]
    refine ⟨vp_in_nI (by omega) (by omega), ?_⟩
    rintro c rfl
    refine ⟨fun e => ?_, fun e => ?_⟩
    · rintro x2 rfl
      exact ⟨⟨i + 1, by omega, rfl, by rw [knC, if_neg e]⟩, ms_up (by omega) (by omega)⟩
    · rintro x2 rfl
      exact ⟨⟨i + 1, by omega, rfl, by rw [knC, if_pos e]⟩, ms_up (by omega) (by omega)⟩
def mkS (nm K A B D C N s7 : Nat → Int32) : Nat → Nat → Int32 := fun r => if r = 0 then nm else if r = 1 then K else if r = 2 then A else if r = 3 then B else if r = 4 then D else if r = 5 then C else if r = 6 then N else s7
def frR (nm K A B D C N : Nat → Int32) : Prop := (∀ f, f < 6 → nm f = knC f 6 ∧ K f = 0 ∧ A f = -2 ∧ B f = -2 ∧ D f = gDeg f ∧ C f = 0) ∧ ∀ i, i < 144 → N i = 0
theorem c_fill {N : Nat → Int32} {Q : (Nat → Int32) → Prop} (h : ∀ N', (∀ i, i < 144 → N' i = 0) → Q N') : wJ7_fill_53178 144 N 0 Q := by
  unfold wJ7_fill_53178
  rintro x3 rfl
  refine ⟨fun a y => ∃ i : Nat, i ≤ 144 ∧ y = nI i ∧ ∀ j, j < i → a j = 0, fun _ y => 145 - y.toNatClampNeg, ⟨0, by omega, rfl, fun j hj => by omega⟩, ?_⟩
  rintro a y ⟨i, hi, rfl, h1⟩
  refine pk_le 144 i (fun z => h a (fun j hj => h1 j (by omega))) (fun z => ⟨vp_in_nI (by omega) (by omega), ?_⟩)
  rw [nI_clamp (by omega), nI_1]
  rintro a2 rfl
  refine ⟨⟨i + 1, by omega, rfl, fun j hj => ?_⟩, ms_up (by omega) (by omega)⟩
  by_cases c : j = i
  · rw [c, pk_us]
  · rw [pk_un c]; exact h1 j (by omega)
theorem c_reset {b m s fu : Int32} {N0 nm0 K0 A0 B0 D0 C0 nd0 : Nat → Int32} {Q : Int32 → Int32 → Int32 → Int32 → (Nat → Int32) → (Nat → Int32) → (Nat → Int32) → (Nat → Int32) → (Nat → Int32) → (Nat → Int32) → (Nat → Int32) → (Nat → Int32) → Prop} (h : ∀ N nm K A B D C nd, frR nm K A B D C N → ndp 6 K A B nd → Q 1000 1000003 0 (nI 6) N nm K A B D C nd) : wX3_reset b m s fu N0 nm0 K0 A0 B0 D0 C0 nd0 Q := by
  unfold wX3_reset
  refine ⟨_, c_fill (fun N' hN => ?_), fun _ h => h⟩
  refine ⟨fun C D A K nm nd B fu y => ∃ k : Nat, k ≤ 6 ∧ y = nI k ∧ fu = nI k ∧ ndp k K A B nd ∧ ∀ f, f < k → nm f = knC f 6 ∧ K f = 0 ∧ A f = -2 ∧ B f = -2 ∧ D f = gDeg f ∧ C f = 0, fun _ _ _ _ _ _ _ _ y => 7 - y.toNatClampNeg, ⟨0, by omega, rfl, rfl, fun f hf => by omega, fun f hf => by omega⟩, ?_⟩
  rintro C D A K nm nd B fu y ⟨k, hk, rfl, rfl, hn, hr⟩
  refine pk_le 6 k (fun z => ?_) (fun z => ?_)
  · obtain rfl : k = 6 := by omega
    exact h N' nm K A B D C nd ⟨hr, hN⟩ hn
  · refine ⟨_, c_known z ?_, fun _ h => h⟩
    have n1 : ((0 : Int32) = 2 ∨ (0 : Int32) = 3 ∨ (0 : Int32) = 4 ∨ (0 : Int32) = 5) → False := by decide
    have n2 : ((0 : Int32) = 2 ∨ (0 : Int32) = 4) → False := by decide
    refine ⟨_, c_add (S := mkS nm K A B D C N' N') (by omega) hn (Or.inl rfl) (Or.inl rfl) (fun w => (n1 w).elim) (fun w => (n2 w).elim) (fun nd' hn' => ⟨vp_in_nI z (by omega), ?_⟩), fun _ _ _ _ _ _ _ _ _ h => h⟩
    rw [nI_clamp (show k < 2 ^ 31 by omega), nI_1]
    rintro e rfl
    refine ⟨vp_in_nI (by omega) (by omega), ?_⟩
    rw [fa_upd_twice]
    rintro d2 rfl
    refine ⟨⟨k + 1, by omega, rfl, rfl, hn', fun f hf => ?_⟩, ms_up (by omega) (by omega)⟩
    show upd nm k (knC k 6) f = knC f 6 ∧ upd K k 0 f = 0 ∧ upd A k (-2) f = -2 ∧ upd B k (-2) f = -2 ∧ upd D k (gDeg k) f = gDeg f ∧ upd C k 0 f = 0
    by_cases c : f = k
    · subst c
      rw [pk_us, pk_us, pk_us, pk_us, pk_us, pk_us]; exact ⟨rfl, rfl, rfl, rfl, rfl, rfl⟩
    · rw [pk_un c, pk_un c, pk_un c, pk_un c, pk_un c, pk_un c]; exact hr f (by omega)
/-- whole lines, and runs of them -/
def lnG (SO CO : Nat → Int32) (F : Nat) (S : Nat → Nat → Int32) (o : Int32) (t F' : Nat) (S' : Nat → Nat → Int32) (o' : Int32) (t' : Nat) : Prop := ∃ u, bdG SO CO F S o t F' S' o' u ∧ SO (u + 1) = 1 ∧ t' = u + 2
def lnB (SO CO : Nat → Int32) (F : Nat) (S : Nat → Nat → Int32) (o : Int32) (t f t' : Nat) : Prop := bdB SO CO F S o t f t' ∨ ∃ F' S' o' u, bdG SO CO F S o t F' S' o' u ∧ ¬ SO (u + 1) = 1 ∧ f = 1 ∧ t' = u + 1
def trR (SO CO : Nat → Int32) : Nat → Nat → (Nat → Nat → Int32) → Int32 → Nat → Nat → (Nat → Nat → Int32) → Int32 → Nat → Prop
  | 0, F, S, o, t, F', S', o', t' => F' = F ∧ S' = S ∧ o' = o ∧ t' = t
  | k + 1, F, S, o, t, F', S', o', t' => ¬ SO t = 0 ∧ ∃ F1 S1 o1 t1, lnG SO CO F S o t F1 S1 o1 t1 ∧ trR SO CO k F1 S1 o1 t1 F' S' o' t'
theorem tr_snoc {SO CO : Nat → Int32} {F2 F3 : Nat} {S2 S3 : Nat → Nat → Int32} {o2 o3 : Int32} {t2 t3 : Nat} (h2 : ¬ SO t2 = 0) (h3 : lnG SO CO F2 S2 o2 t2 F3 S3 o3 t3) : ∀ (k F : Nat) (S : Nat → Nat → Int32) (o : Int32) (t : Nat), trR SO CO k F S o t F2 S2 o2 t2 → trR SO CO (k + 1) F S o t F3 S3 o3 t3
  | 0, F, S, o, t, ⟨e1, e2, e3, e4⟩ => by
    subst e1 e2 e3 e4
    exact ⟨h2, _, _, _, _, h3, rfl, rfl, rfl, rfl⟩
  | k + 1, F, S, o, t, ⟨h0, F1, S1, o1, t1, q1, q2⟩ => ⟨h0, F1, S1, o1, t1, q1, tr_snoc h2 h3 k F1 S1 o1 t1 q2⟩
theorem bdG_u {SO CO : Nat → Int32} {F F' t u : Nat} {S S' : Nat → Nat → Int32} {o o' : Int32} (h : bdG SO CO F S o t F' S' o' u) : t < u ∧ u ≤ t + 4 := by
  rcases h with ⟨j, -, -, -, -, -, -, -, rfl⟩ | ⟨-, -, -, -, -, rfl⟩ | ⟨g, -, -, -, -, -, -, -, -, -, rfl⟩ | ⟨g, h, -, -, -, -, -, -, -, rfl⟩ | ⟨g, -, -, -, -, -, -, rfl⟩ | ⟨g, h, -, -, -, -, -, -, -, -, -, rfl⟩ | ⟨g, -, -, -, -, -, -, -, -, rfl⟩ <;> omega
theorem nu_f {SO CO : Nat → Int32} {a b : Int32} {t f : Nat} (h : nuB SO CO a b t f) : 1 ≤ f ∧ f ≤ 4 := by rcases h with ⟨-, rfl⟩ | ⟨-, -, rfl⟩ <;> omega
theorem sg_f {SO CO : Nat → Int32} {t f : Nat} (h : sgB SO CO t f) : 1 ≤ f ∧ f ≤ 4 := by rcases h with ⟨-, -, rfl⟩ | ⟨-, -, rfl⟩ <;> omega
theorem fn_f {SO CO : Nat → Int32} {F t f : Nat} {S : Nat → Nat → Int32} (h : fnB SO CO F S t f) : 1 ≤ f ∧ f ≤ 4 := by rcases h with ⟨-, rfl⟩ | ⟨-, -, rfl⟩ <;> omega
theorem nm_f {SO CO : Nat → Int32} {F t f t' : Nat} {S : Nat → Nat → Int32} (h : nmB SO CO F S t f t') : (1 ≤ f ∧ f ≤ 4) ∧ t' ≤ t + 4 := by rcases h with ⟨-, rfl, rfl⟩ | ⟨-, -, rfl, rfl⟩ | ⟨-, -, -, rfl, rfl⟩ <;> omega
theorem bdB_f {SO CO : Nat → Int32} {F t f t' : Nat} {S : Nat → Nat → Int32} {o : Int32} (h : bdB SO CO F S o t f t') : (1 ≤ f ∧ f ≤ 4) ∧ t' ≤ t + 4 := by
  rcases h with ⟨-, rfl, rfl⟩ | ⟨j, -, -, ⟨-, rfl, rfl⟩ | ⟨-, q, rfl⟩⟩ | ⟨-, ⟨q, rfl⟩ | ⟨g, -, ⟨-, rfl, rfl⟩ | ⟨-, ⟨q, rfl⟩ | ⟨-, ⟨q, rfl⟩ | ⟨-, q, rfl⟩⟩⟩⟩⟩ | ⟨-, q⟩ | ⟨-, ⟨-, q, rfl⟩ | ⟨g, -, ⟨-, q, rfl⟩ | ⟨-, -, rfl, rfl⟩ | ⟨-, -, rfl, rfl⟩ | ⟨-, -, q, rfl⟩⟩⟩
  · omega
  · omega
  · have := nu_f q; omega
  · have := fn_f q; omega
  · omega
  · have := nu_f q; omega
  · have := sg_f q; omega
  · have := sg_f q; omega
  · exact nm_f q
  · have := fn_f q; omega
  · have := fn_f q; omega
  · omega
  · omega
  · have := nu_f q; omega
theorem lnB_f {SO CO : Nat → Int32} {F t f t' : Nat} {S : Nat → Nat → Int32} {o : Int32} (h : lnB SO CO F S o t f t') : (1 ≤ f ∧ f ≤ 4) ∧ t' ≤ t + 5 := by
  rcases h with q | ⟨F', S', o', u, q, -, rfl, rfl⟩
  · have := bdB_f q; omega
  · have := bdG_u q; omega
theorem c_takeStop {fed at_ li fa pl o : Int32} {n T t : Nat} {so st co : Nat → Int32} {Q : Int32 → Int32 → Int32 → Int32 → Prop} (hT : T ≤ 700) (ht : t + 1 < 2 ^ 31) (h1 : tkS T so (t + 1) = 1 → Q 1 fa pl (nI (t + 1))) (h0 : ¬ tkS T so (t + 1) = 1 → Q 0 1 (tkP T n st (t + 1)) (nI (t + 1))) (_ : co = co) : wX5_takeStop li fa pl (nI t) o fed (nI n) (nI T) at_ so st Q := by
  unfold wX5_takeStop
  rw [nI_1]
  rintro t1 rfl
  exact ⟨_, c_sortOf hT (by omega) (br_c (fun e => h1 e) (fun e => ⟨_, c_refuse hT (by omega) (c0 (h0 e)), fun _ _ _ h => h⟩)), fun _ h => h⟩
theorem st_0 {nm K A B D C N nd : Nat → Int32} (h : frR nm K A B D C N) (hn : ndp 6 K A B nd) : stOK 6 (mkS nm K A B D C N (fun j => if j = 0 then 1000 else if j = 1 then 1000003 else 0)) nd := by
  refine ⟨⟨by omega, by omega⟩, fun f hf => ?_, hn, fun f hf => ⟨fun _ => (h.1 f hf).2.1, fun w => by omega⟩, fun f hf => ?_, ⟨1000, 1000003, 0, by omega, by omega, by omega, by omega, by omega, rfl, rfl, rfl⟩, fun f hf => ?_⟩
  · show ((K f = 2 ∨ K f = 3 ∨ K f = 4 ∨ K f = 5) → _) ∧ ((K f = 2 ∨ K f = 4) → _)
    rw [(h.1 f hf).2.1]
    exact ⟨fun w => absurd w (by decide), fun w => absurd w (by decide)⟩
  · show ∃ d, d ≤ 3 ∧ D f = nI d
    rw [(h.1 f hf).2.2.2.2.1]
    have hd : ∀ f, f < 6 → gDeg f = nI (f % 2) := by decide +kernel
    exact ⟨f % 2, by omega, hd f hf⟩
  · show K f = 5 → _
    rw [(h.1 f hf).2.1]
    exact fun w => absurd w (by decide)
