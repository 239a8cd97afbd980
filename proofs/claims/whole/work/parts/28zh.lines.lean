/-! PURE: what a line says, and the class's reading of it -/
def tkS (T : Nat) (so : Nat → Int32) (t : Nat) : Int32 := if t < T then so t else 0
def tkP (T n : Nat) (st : Nat → Int32) (t : Nat) : Int32 := if t < T then st t else nI n
def nmG (SO CO : Nat → Int32) (F : Nat) (S : Nat → Nat → Int32) (t : Nat) : Prop := F < 12 ∧ SO (t + 1) = 4 ∧ ∀ j, j < F → S 0 j ≠ CO (t + 1)
def nmB (SO CO : Nat → Int32) (F : Nat) (S : Nat → Nat → Int32) (t f t' : Nat) : Prop := (12 ≤ F ∧ f = 2 ∧ t' = t) ∨ (F < 12 ∧ ¬ SO (t + 1) = 4 ∧ f = 1 ∧ t' = t + 1) ∨ (F < 12 ∧ SO (t + 1) = 4 ∧ (∃ j, j < F ∧ S 0 j = CO (t + 1)) ∧ f = 3 ∧ t' = t + 1)
def fnG (SO CO : Nat → Int32) (F : Nat) (S : Nat → Nat → Int32) (t g : Nat) : Prop := SO t = 4 ∧ g < F ∧ S 0 g = CO t ∧ ∀ i, i < g → S 0 i ≠ CO t
def fnB (SO CO : Nat → Int32) (F : Nat) (S : Nat → Nat → Int32) (t f : Nat) : Prop := (¬ SO t = 4 ∧ f = 1) ∨ (SO t = 4 ∧ (∀ j, j < F → S 0 j ≠ CO t) ∧ f = 4)
def nuG (SO CO : Nat → Int32) (lo hi : Int32) (t : Nat) : Prop := SO t = 2 ∧ ¬ CO t < lo ∧ CO t ≤ hi
def nuB (SO CO : Nat → Int32) (lo hi : Int32) (t f : Nat) : Prop := (¬ SO t = 2 ∧ f = 1) ∨ (SO t = 2 ∧ (CO t < lo ∨ ¬ CO t ≤ hi) ∧ f = 2)
def sgG (SO CO : Nat → Int32) (t : Nat) : Prop := (SO t = 2 ∨ SO t = 3) ∧ tl (CO t)
def sgB (SO CO : Nat → Int32) (t f : Nat) : Prop := (¬ SO t = 2 ∧ ¬ SO t = 3 ∧ f = 1) ∨ ((SO t = 2 ∨ SO t = 3) ∧ ¬ tl (CO t) ∧ f = 2)
def addS (S : Nat → Nat → Int32) (F : Nat) (nm kd a b d c : Int32) : Nat → Nat → Int32 := fun r => if r = 0 then upd (S 0) F nm else if r = 1 then upd (S 1) F kd else if r = 2 then upd (S 2) F a else if r = 3 then upd (S 3) F b else if r = 4 then upd (S 4) F d else if r = 5 then upd (S 5) F c else S r
def numS (S : Nat → Nat → Int32) (d : Nat) (x y : Int32) : Nat → Nat → Int32 := fun r => if r = 6 then upd (upd (S 6) d x) (d + 1) y else S r
def setS (S : Nat → Nat → Int32) (j : Nat) (v : Int32) : Nat → Nat → Int32 := fun r => if r = 7 then upd (S 7) j v else S r
def bit3 (j : Nat) : Int32 := 1 <<< ((nI (10 + j) - 10) &&& 31)
def lo3 (j : Nat) : Int32 := if j = 0 then 1 else if j = 1 then 2 else 0
def hi3 (j : Nat) : Int32 := if j = 0 then 200000 else if j = 1 then 1000003 else 99999
/-- the body of a line that holds: state, and the last token that it takes -/
def bdG (SO CO : Nat → Int32) (F : Nat) (S : Nat → Nat → Int32) (o : Int32) (t F' : Nat) (S' : Nat → Nat → Int32) (o' : Int32) (u : Nat) : Prop :=
  (∃ j, j < 3 ∧ SO t = nI (10 + j) ∧ o &&& bit3 j = 0 ∧ nuG SO CO (lo3 j) (hi3 j) (t + 1) ∧ F' = F ∧ S' = setS S j (CO (t + 1)) ∧ o' = o ||| bit3 j ∧ u = t + 1) ∨
  (SO t = 13 ∧ nmG SO CO F S t ∧ F' = F + 1 ∧ S' = addS S F (CO (t + 1)) 1 (-2) (-2) 1 0 ∧ o' = o ∧ u = t + 1) ∨
  (∃ g, SO t = 14 ∧ fnG SO CO F S (t + 1) g ∧ S 1 g = 1 ∧ nuG SO CO 1 6 (t + 2) ∧ sgG SO CO (t + 3) ∧ sgG SO CO (t + 4) ∧ F' = F ∧ S' = numS S (12 * g + 2 * ((CO (t + 2)).toNatClampNeg - 1)) (CO (t + 3)) (CO (t + 4)) ∧ o' = o ∧ u = t + 4) ∨
  (∃ g h, SO t = 15 ∧ nmG SO CO F S t ∧ fnG SO CO F S (t + 2) g ∧ fnG SO CO F S (t + 3) h ∧ F' = F + 1 ∧ S' = addS S F (CO (t + 1)) 2 (nI g) (nI h) (if S 4 g < S 4 h then S 4 h else S 4 g) (S 5 g ||| S 5 h) ∧ o' = o ∧ u = t + 3) ∨
  (∃ g, SO t = 16 ∧ nmG SO CO F S t ∧ fnG SO CO F S (t + 2) g ∧ F' = F + 1 ∧ S' = addS S F (CO (t + 1)) 3 (nI g) (-2) (S 4 g) (S 5 g) ∧ o' = o ∧ u = t + 2) ∨
  (∃ g h, SO t = 17 ∧ nmG SO CO F S t ∧ fnG SO CO F S (t + 2) g ∧ fnG SO CO F S (t + 3) h ∧ ¬ 3 < S 4 g + S 4 h ∧ (S 5 g = 0 ∨ S 5 h = 0) ∧ F' = F + 1 ∧ S' = addS S F (CO (t + 1)) 4 (nI g) (nI h) (S 4 g + S 4 h) (S 5 g ||| S 5 h) ∧ o' = o ∧ u = t + 3) ∨
  (∃ g, SO t = 18 ∧ nmG SO CO F S t ∧ fnG SO CO F S (t + 2) g ∧ S 5 g = 0 ∧ nuG SO CO 3 4 (t + 3) ∧ F' = F + 1 ∧ S' = addS S F (CO (t + 1)) 5 (nI g) (-2) (S 4 g) (if CO (t + 3) = 3 then 1 else 2) ∧ o' = o ∧ u = t + 3)
/-- a line that doesn't hold: its fault, and the token that is at fault -/
def bdB (SO CO : Nat → Int32) (F : Nat) (S : Nat → Nat → Int32) (o : Int32) (t f t' : Nat) : Prop :=
  ((∀ w, w < 9 → ¬ SO t = nI (10 + w)) ∧ f = 1 ∧ t' = t) ∨
  (∃ j, j < 3 ∧ SO t = nI (10 + j) ∧ ((¬ o &&& bit3 j = 0 ∧ f = 3 ∧ t' = t) ∨ (o &&& bit3 j = 0 ∧ nuB SO CO (lo3 j) (hi3 j) (t + 1) f ∧ t' = t + 1))) ∨
  (SO t = 14 ∧ ((fnB SO CO F S (t + 1) f ∧ t' = t + 1) ∨ ∃ g, fnG SO CO F S (t + 1) g ∧ ((¬ S 1 g = 1 ∧ f = 4 ∧ t' = t + 1) ∨ (S 1 g = 1 ∧ ((nuB SO CO 1 6 (t + 2) f ∧ t' = t + 2) ∨ (nuG SO CO 1 6 (t + 2) ∧ ((sgB SO CO (t + 3) f ∧ t' = t + 3) ∨ (sgG SO CO (t + 3) ∧ sgB SO CO (t + 4) f ∧ t' = t + 4)))))))) ∨
  ((SO t = 13 ∨ SO t = 15 ∨ SO t = 16 ∨ SO t = 17 ∨ SO t = 18) ∧ nmB SO CO F S t f t') ∨
  (nmG SO CO F S t ∧ (((SO t = 15 ∨ SO t = 16 ∨ SO t = 17 ∨ SO t = 18) ∧ fnB SO CO F S (t + 2) f ∧ t' = t + 2) ∨
    ∃ g, fnG SO CO F S (t + 2) g ∧ (((SO t = 15 ∨ SO t = 17) ∧ fnB SO CO F S (t + 3) f ∧ t' = t + 3) ∨
      (SO t = 17 ∧ (∃ h, fnG SO CO F S (t + 3) h ∧ (3 < S 4 g + S 4 h ∨ (¬ S 5 g = 0 ∧ ¬ S 5 h = 0))) ∧ f = 2 ∧ t' = t + 3) ∨
      (SO t = 18 ∧ ¬ S 5 g = 0 ∧ f = 2 ∧ t' = t + 2) ∨ (SO t = 18 ∧ S 5 g = 0 ∧ nuB SO CO 3 4 (t + 3) f ∧ t' = t + 3))))
def stOK (F : Nat) (S : Nat → Nat → Int32) (nd : Nat → Int32) : Prop := (6 ≤ F ∧ F ≤ 12) ∧ wfp F (S 1) (S 2) (S 3) ∧ ndp F (S 1) (S 2) (S 3) nd ∧ (∀ f, f < F → (f < 6 → S 1 f = 0) ∧ (6 ≤ f → S 1 f = 1 ∨ S 1 f = 2 ∨ S 1 f = 3 ∨ S 1 f = 4 ∨ S 1 f = 5)) ∧ (∀ f, f < F → ∃ d, d ≤ 3 ∧ S 4 f = nI d) ∧ (∃ Bd M Sd : Nat, 1 ≤ Bd ∧ Bd ≤ 200000 ∧ 2 ≤ M ∧ M ≤ 1000003 ∧ Sd ≤ 99999 ∧ S 7 0 = nI Bd ∧ S 7 1 = nI M ∧ S 7 2 = nI Sd) ∧ ∀ f, f < F → S 1 f = 5 → S 5 f = 1 ∨ S 5 f = 2
theorem c_sortOf {fed at_ : Int32} {n T t : Nat} {so : Nat → Int32} {Q : Int32 → Prop} (hT : T ≤ 700) (ht : t < 2 ^ 31) (h : Q (tkS T so t)) : wX9_sortOf fed (nI n) (nI T) at_ so (nI t) Q := by
  unfold wX9_sortOf
  refine ⟨fun z => absurd z (nI_pos ht), fun _ => pk_le T t (fun z => ?_) (fun z => ⟨vp_in_nI (by omega) (by omega), ?_⟩)⟩
  · rw [tkS, if_neg (by omega)] at h; exact h
  · rw [tkS, if_pos z] at h; rw [nI_clamp ht]; exact h
theorem c_contentOf {fed at_ : Int32} {n T t : Nat} {co : Nat → Int32} {Q : Int32 → Prop} (hT : T ≤ 700) (ht : t < 2 ^ 31) (h : Q (tkS T co t)) : wX9_contentOf fed (nI n) (nI T) at_ co (nI t) Q := by
  unfold wX9_contentOf
  refine ⟨fun z => absurd z (nI_pos ht), fun _ => pk_le T t (fun z => ?_) (fun z => ⟨vp_in_nI (by omega) (by omega), ?_⟩)⟩
  · rw [tkS, if_neg (by omega)] at h; exact h
  · rw [tkS, if_pos z] at h; rw [nI_clamp ht]; exact h
theorem c_refuse {fed at_ li fa pl o : Int32} {n T t : Nat} {st : Nat → Int32} {a : Int32} {Q : Int32 → Int32 → Int32 → Prop} (hT : T ≤ 700) (ht : t < 2 ^ 31) (h : Q 0 a (tkP T n st t)) : wX5_refuse li fa pl (nI t) o fed (nI n) (nI T) at_ st a Q := by
  unfold wX5_refuse
  refine ⟨_, ?_, fun _ h => h⟩
  unfold wX9_startOf
  refine ⟨fun z => absurd z (nI_pos ht), fun _ => pk_le T t (fun z => ?_) (fun z => ⟨vp_in_nI (by omega) (by omega), ?_⟩)⟩
  · rw [tkP, if_neg (by omega)] at h; exact h
  · rw [tkP, if_pos z] at h; rw [nI_clamp ht]; exact h
theorem c_takeNumber {fed at_ li fa pl o : Int32} {n T t : Nat} {so st co : Nat → Int32} {lo hi : Int32} {Q : Int32 → Int32 → Int32 → Int32 → Prop} (hT : T ≤ 700) (ht : t + 1 < 2 ^ 31) (h1 : nuG (tkS T so) (tkS T co) lo hi (t + 1) → Q 1 fa pl (nI (t + 1))) (h0 : ∀ f, nuB (tkS T so) (tkS T co) lo hi (t + 1) f → Q 0 (nI f) (tkP T n st (t + 1)) (nI (t + 1))) : wX5_takeNumber li fa pl (nI t) o fed (nI n) (nI T) at_ so co st lo hi Q := by
  unfold wX5_takeNumber
  rw [nI_1]
  rintro t1 rfl
  refine ⟨_, c_sortOf hT (by omega) (br_c (fun e => ⟨_, c_contentOf hT (by omega) (br_c (fun e2 => ⟨_, c_refuse hT (by omega) (c0 (h0 2 (Or.inr ⟨e, Or.inl e2, rfl⟩))), fun _ _ _ h => h⟩) (fun e2 => br_c (fun e3 => h1 ⟨e, e2, e3⟩) (fun e3 => ⟨_, c_refuse hT (by omega) (c0 (h0 2 (Or.inr ⟨e, Or.inr e3, rfl⟩))), fun _ _ _ h => h⟩))), fun _ h => h⟩) (fun e => ⟨_, c_refuse hT (by omega) ⟨Or.inl rfl, h0 1 (Or.inl ⟨e, rfl⟩)⟩, fun _ _ _ h => h⟩)), fun _ h => h⟩
theorem c_takeSigned {fed at_ li fa pl o : Int32} {n T t : Nat} {so st co : Nat → Int32} {Q : Int32 → Int32 → Int32 → Int32 → Prop} (hT : T ≤ 700) (ht : t + 1 < 2 ^ 31) (h1 : sgG (tkS T so) (tkS T co) (t + 1) → Q 1 fa pl (nI (t + 1))) (h0 : ∀ f, sgB (tkS T so) (tkS T co) (t + 1) f → Q 0 (nI f) (tkP T n st (t + 1)) (nI (t + 1))) : wX5_takeSigned li fa pl (nI t) o fed (nI n) (nI T) at_ so st co Q := by
  unfold wX5_takeSigned
  rw [nI_1]
  rintro t1 rfl
  refine ⟨_, c_sortOf hT (by omega) ⟨tkS T so (t + 1) = 2 ∨ tkS T so (t + 1) = 3, br_c (fun e => Or.inl e) (fun e => br_c (fun e2 => Or.inr e2) (fun e2 => ⟨_, c_refuse hT (by omega) ⟨Or.inl rfl, h0 1 (Or.inl ⟨e, e2, rfl⟩)⟩, fun _ _ _ h => h⟩)), fun hJ => ⟨_, c_contentOf hT (by omega) ?_, fun _ h => h⟩⟩, fun _ h => h⟩
  by_cases c : tl (tkS T co (t + 1))
  · exact ⟨_, tl_y c (b1 (h1 ⟨hJ, c⟩)), fun _ h => h⟩
  · exact ⟨_, tl_n c (b0 ⟨_, c_refuse hT (by omega) (c0 (h0 2 (Or.inr ⟨hJ, c, rfl⟩))), fun _ _ _ h => h⟩), fun _ h => h⟩
theorem c_newName {fed at_ li fa pl o : Int32} {n T t : Nat} {so st co : Nat → Int32} {bd mo sd : Int32} {F : Nat} {S : Nat → Nat → Int32} {Q : Int32 → Int32 → Int32 → Int32 → Prop} (hT : T ≤ 700) (ht : t + 1 < 2 ^ 31) (hF : F ≤ 12) (h1 : nmG (tkS T so) (tkS T co) F S t → Q (tkS T co (t + 1)) fa pl (nI (t + 1))) (h0 : ∀ f t', nmB (tkS T so) (tkS T co) F S t f t' → Q (-1) (nI f) (tkP T n st t') (nI t')) : wX5_takeNewName li fa pl (nI t) o bd mo sd (nI F) fed (nI n) (nI T) at_ so co (S 0) st Q := by
  unfold wX5_takeNewName
  refine ⟨_, ?_, fun _ h => h⟩
  unfold wX3_isFilled
  refine pk_lt F 12 (fun z => c0 ?_) (fun z => c1 ⟨_, c_refuse hT (by omega) (h0 2 t (Or.inl ⟨z, rfl, rfl⟩)), fun _ _ _ h => h⟩)
  rw [nI_1]
  rintro t1 rfl
  refine ⟨_, c_sortOf hT (by omega) (br_c (fun e => ⟨_, c_contentOf hT (by omega) ⟨_, s_find hF (fun q => br_t rfl (h1 ⟨z, e, q⟩)) (fun j hj q1 q2 => br_f (nI_m1 (by omega)) ⟨_, c_refuse hT (by omega) (h0 3 (t + 1) (Or.inr (Or.inr ⟨z, e, ⟨j, hj, q1⟩, rfl, rfl⟩))), fun _ _ _ h => h⟩), fun _ h => h⟩, fun _ h => h⟩) (fun e => ⟨_, c_refuse hT (by omega) (h0 1 (t + 1) (Or.inr (Or.inl ⟨z, e, rfl, rfl⟩))), fun _ _ _ h => h⟩)), fun _ h => h⟩
theorem c_function {fed at_ li fa pl o : Int32} {n T t : Nat} {so st co : Nat → Int32} {bd mo sd : Int32} {F : Nat} {S : Nat → Nat → Int32} {Q : Int32 → Int32 → Int32 → Int32 → Prop} (hT : T ≤ 700) (ht : t + 1 < 2 ^ 31) (hF : F ≤ 12) (h1 : ∀ g, fnG (tkS T so) (tkS T co) F S (t + 1) g → Q (nI g) fa pl (nI (t + 1))) (h0 : ∀ f, fnB (tkS T so) (tkS T co) F S (t + 1) f → Q (-1) (nI f) (tkP T n st (t + 1)) (nI (t + 1))) : wX5_takeFunction li fa pl (nI t) o fed (nI n) (nI T) at_ so co bd mo sd (nI F) (S 0) st Q := by
  unfold wX5_takeFunction
  rw [nI_1]
  rintro t1 rfl
  refine ⟨_, c_sortOf hT (by omega) (br_c (fun e => ⟨_, c_contentOf hT (by omega) ⟨_, s_find hF (fun q => ⟨fun w => absurd rfl w, fun _ => ⟨_, c_refuse hT (by omega) (h0 4 (Or.inr ⟨e, q, rfl⟩)), fun _ _ _ h => h⟩⟩) (fun j hj q1 q2 => ⟨fun _ => h1 j ⟨e, hj, q1, q2⟩, fun w => absurd w (nI_m1 (by omega))⟩), fun _ h => h⟩, fun _ h => h⟩) (fun e => ⟨_, c_refuse hT (by omega) (h0 1 (Or.inl ⟨e, rfl⟩)), fun _ _ _ h => h⟩)), fun _ h => h⟩
theorem wf_add {F : Nat} {K A B : Nat → Int32} {kd a b : Int32} (hw : wfp F K A B) (ha : (kd = 2 ∨ kd = 3 ∨ kd = 4 ∨ kd = 5) → a.toNatClampNeg < F ∧ a = nI a.toNatClampNeg) (hb : (kd = 2 ∨ kd = 4) → b.toNatClampNeg < F ∧ b = nI b.toNatClampNeg) : wfp (F + 1) (upd K F kd) (upd A F a) (upd B F b) := by
  intro f hf
  by_cases c : f = F
  · subst c
    rw [pk_us, pk_us, pk_us]
    exact ⟨ha, hb⟩
  · rw [pk_un c, pk_un c, pk_un c]
    exact hw f (by omega)
theorem nd_add {F m : Nat} {K A B nd : Nat → Int32} {kd a b : Int32} (hn : ndp F K A B nd) (hm : m < 4096) (hmF : m.testBit F = true) (hbit : ∀ g, m.testBit g = true → g = F ∨ (g < F ∧ ((K g = 2 ∨ K g = 3 ∨ K g = 4 ∨ K g = 5) → m.testBit (A g).toNatClampNeg = true) ∧ ((K g = 2 ∨ K g = 4) → m.testBit (B g).toNatClampNeg = true))) (ha : (kd = 2 ∨ kd = 3 ∨ kd = 4 ∨ kd = 5) → m.testBit a.toNatClampNeg = true) (hb : (kd = 2 ∨ kd = 4) → m.testBit b.toNatClampNeg = true) : ndp (F + 1) (upd K F kd) (upd A F a) (upd B F b) (upd nd F (nI m)) := by
  intro f hf
  by_cases c : f = F
  · subst c
    refine ⟨m, hm, pk_us, hmF, fun g hg => ?_⟩
    rcases hbit g hg with rfl | ⟨h1, h2, h3⟩
    · rw [pk_us, pk_us, pk_us]; exact ⟨Nat.le_refl _, ha, hb⟩
    · rw [pk_un (by omega), pk_un (by omega), pk_un (by omega)]; exact ⟨by omega, h2, h3⟩
  · obtain ⟨m', e1, e2, e3, e4⟩ := hn f (by omega)
    refine ⟨m', e1, by rw [pk_un c]; exact e2, e3, fun g hg => ?_⟩
    obtain ⟨q1, q2, q3⟩ := e4 g hg
    rw [pk_un (by omega), pk_un (by omega), pk_un (by omega)]
    exact ⟨q1, q2, q3⟩
theorem two_b {F : Nat} (h : F < 12) : 2 ^ F < 4096 := Nat.pow_lt_pow_right (a := 2) (by omega) h
theorem sh_F {F : Nat} (h : F < 12) : (1 : Int32) <<< (nI F &&& 31) = nI (2 ^ F) := by
  have := two_b h
  rw [show (1 : Int32) = nI 1 from rfl, pk_shlN _ F (z_sh _ (by omega)) (by omega), Nat.one_mul]
theorem tb_2 (F g : Nat) : (2 ^ F).testBit g = decide (F = g) := Nat.testBit_two_pow
theorem m2_has {j : Nat} (h : j < 2 ^ 31) : (-2 : Int32) ≠ nI j := fun e => by
  have h1 := congrArg Int32.toInt e
  rw [show (-2 : Int32).toInt = -2 from by decide, nI_toInt h] at h1; omega
theorem has_e {bo mo se x : Int32} {F j : Nat} {Q : Int32 → Prop} (hx : x = nI j) (hF : F < 2 ^ 31) (hj : j < F) (h : Q 1) : wX3_has bo mo se (nI F) x Q := by
  subst hx; exact has_y hF hj h
theorem has_2 {bo mo se x : Int32} {F : Nat} {Q : Int32 → Prop} (hx : x = -2) (hF : F < 2 ^ 31) (h : Q 0) : wX3_has bo mo se (nI F) x Q := by
  subst hx; exact has_n (fun j hj => m2_has (by omega)) h
theorem c_add {bd mo sd nm kd a b : Int32} {F : Nat} {S : Nat → Nat → Int32} {nd : Nat → Int32} {Q : Int32 → Int32 → (Nat → Int32) → (Nat → Int32) → (Nat → Int32) → (Nat → Int32) → (Nat → Int32) → (Nat → Int32) → (Nat → Int32) → Prop} (hF : F < 12) (hn : ndp F (S 1) (S 2) (S 3) nd) (ha : a = -2 ∨ ∃ g, g < F ∧ a = nI g) (hb : b = -2 ∨ ∃ g, g < F ∧ b = nI g) (hka : (kd = 2 ∨ kd = 3 ∨ kd = 4 ∨ kd = 5) → ∃ g, g < F ∧ a = nI g) (hkb : (kd = 2 ∨ kd = 4) → ∃ g, g < F ∧ b = nI g) (h : ∀ nd', ndp (F + 1) (upd (S 1) F kd) (upd (S 2) F a) (upd (S 3) F b) nd' → Q (nI F) (nI (F + 1)) (upd (S 0) F nm) (upd (S 1) F kd) (upd (S 2) F a) (upd (S 3) F b) (upd (S 4) F 0) (upd (S 5) F 0) nd') : wX3_add bd mo sd (nI F) (S 0) (S 1) (S 2) (S 3) (S 4) (S 5) nd nm kd a b Q := by
  have h2F := two_b hF
  -- the bits of a function that is there, or none
  have part : ∀ x : Int32, (x = -2 ∨ ∃ g, g < F ∧ x = nI g) → ∃ m : Nat, m < 4096 ∧ (∀ g, g < F → x = nI g → nd g = nI m) ∧ (x = -2 → m = 0) ∧ (∀ g, g < F → x = nI g → m.testBit g = true) ∧ ∀ g, m.testBit g = true → g < F ∧ ((S 1 g = 2 ∨ S 1 g = 3 ∨ S 1 g = 4 ∨ S 1 g = 5) → m.testBit (S 2 g).toNatClampNeg = true) ∧ ((S 1 g = 2 ∨ S 1 g = 4) → m.testBit (S 3 g).toNatClampNeg = true) := by
    rintro x (rfl | ⟨g, hg, rfl⟩)
    · exact ⟨0, by omega, fun g hg e => absurd e (m2_has (by omega)), fun _ => rfl, fun g hg e => absurd e (m2_has (by omega)), fun g hg => by rw [Nat.zero_testBit] at hg; exact absurd hg (by decide)⟩
    · obtain ⟨m, e1, e2, e3, e4⟩ := hn g hg
      have one : ∀ g', g' < F → nI g = nI g' → g = g' := fun g' hg' e => (nI_eq (by omega) (by omega)).mp e
      exact ⟨m, e1, fun g' hg' e => by rw [← one g' hg' e]; exact e2, fun e => absurd e.symm (m2_has (by omega)), fun g' hg' e => by rw [← one g' hg' e]; exact e3, fun g' hg' => ⟨by have := (e4 g' hg').1; omega, (e4 g' hg').2⟩⟩
  obtain ⟨ma, a1, a2, a3, a4, a5⟩ := part a ha
  obtain ⟨mb, b1', b2, b3, b4, b5⟩ := part b hb
  have hmlt : (2 ^ F ||| ma) ||| mb < 4096 := Nat.or_lt_two_pow (n := 12) (Nat.or_lt_two_pow (n := 12) h2F a1) b1'
  have tb : ∀ g, ((2 ^ F ||| ma) ||| mb).testBit g = ((decide (F = g) || ma.testBit g) || mb.testBit g) := fun g => by rw [Nat.testBit_or, Nat.testBit_or, tb_2]
  have hnd : ndp (F + 1) (upd (S 1) F kd) (upd (S 2) F a) (upd (S 3) F b) (upd nd F (nI ((2 ^ F ||| ma) ||| mb))) := by
    refine nd_add hn hmlt (by rw [tb, decide_eq_true rfl, Bool.true_or, Bool.true_or]) (fun g hg => ?_) (fun hk => ?_) (fun hk => ?_)
    · rw [tb] at hg
      by_cases c : F = g
      · exact Or.inl c.symm
      · rw [decide_eq_false c, Bool.false_or, Bool.or_eq_true] at hg
        rcases hg with q | q
        · obtain ⟨r1, r2, r3⟩ := a5 g q
          exact Or.inr ⟨r1, fun w => by rw [tb, r2 w, Bool.or_true, Bool.true_or], fun w => by rw [tb, r3 w, Bool.or_true, Bool.true_or]⟩
        · obtain ⟨r1, r2, r3⟩ := b5 g q
          exact Or.inr ⟨r1, fun w => by rw [tb, r2 w, Bool.or_true], fun w => by rw [tb, r3 w, Bool.or_true]⟩
    · obtain ⟨g, hg, e⟩ := hka hk
      rw [e, nI_clamp (by omega), tb, a4 g hg e, Bool.or_true, Bool.true_or]
    · obtain ⟨g, hg, e⟩ := hkb hk
      rw [e, nI_clamp (by omega), tb, b4 g hg e, Bool.or_true]
  have fin := h _ hnd
  unfold wX3_add
  refine ⟨_, ?_, fun _ h => h⟩
  unfold wX3_isFilled
  refine pk_lt F 12 (fun _ => c0 ?_) (fun z => by omega)
  rw [nI_1, nI_clamp (show F < 2 ^ 31 by omega), sh_F hF]
  rintro f1 rfl
  refine ⟨vp_in_nI hF (by omega), ?_⟩
  rintro r1 rfl r2 rfl r3 rfl r4 rfl r5 rfl r6 rfl
  rcases ha with ha | ⟨g, hg, ha⟩
  · refine ⟨_, has_2 ha (by omega) (c0 ?_), fun _ h => h⟩
    rw [a3 ha, Nat.or_zero] at fin
    rcases hb with hb | ⟨g2, hg2, hb⟩
    · refine ⟨_, has_2 hb (by omega) (c0 ?_), fun _ h => h⟩
      rw [b3 hb, Nat.or_zero] at fin
      rw [show (0 : Int32) = nI 0 from rfl, fa_or, Nat.or_zero, fa_or, Nat.or_zero]
      rintro e rfl
      refine ⟨vp_in_nI hF (by omega), ?_⟩
      rintro nd2 rfl
      exact fin
    · refine ⟨_, has_e hb (by omega) (by omega) (c1 ⟨by rw [hb]; exact vp_in_nI (by omega) (by omega), ?_⟩), fun _ h => h⟩
      rw [show b.toNatClampNeg = g2 from by rw [hb]; exact nI_clamp (by omega), b2 g2 hg2 hb, show (0 : Int32) = nI 0 from rfl, fa_or, Nat.or_zero, fa_or]
      rintro e rfl
      refine ⟨vp_in_nI hF (by omega), ?_⟩
      rintro nd2 rfl
      exact fin
  · refine ⟨_, has_e ha (by omega) (by omega) (c1 ⟨by rw [ha]; exact vp_in_nI (by omega) (by omega), ?_⟩), fun _ h => h⟩
    rw [show a.toNatClampNeg = g from by rw [ha]; exact nI_clamp (by omega), a2 g hg ha, fa_or]
    rcases hb with hb | ⟨g2, hg2, hb⟩
    · refine ⟨_, has_2 hb (by omega) (c0 ?_), fun _ h => h⟩
      rw [b3 hb, Nat.or_zero] at fin
      rw [show (0 : Int32) = nI 0 from rfl, fa_or, Nat.or_zero]
      rintro e rfl
      refine ⟨vp_in_nI hF (by omega), ?_⟩
      rintro nd2 rfl
      exact fin
    · refine ⟨_, has_e hb (by omega) (by omega) (c1 ⟨by rw [hb]; exact vp_in_nI (by omega) (by omega), ?_⟩), fun _ h => h⟩
      rw [show b.toNatClampNeg = g2 from by rw [hb]; exact nI_clamp (by omega), b2 g2 hg2 hb, fa_or]
      rintro e rfl
      refine ⟨vp_in_nI hF (by omega), ?_⟩
      rintro nd2 rfl
      exact fin
theorem st_add {F : Nat} {S : Nat → Nat → Int32} {nd nd' : Nat → Int32} {nm kd a b d c : Int32} (h : stOK F S nd) (hF : F < 12) (hkd : kd = 1 ∨ kd = 2 ∨ kd = 3 ∨ kd = 4 ∨ kd = 5) (hka : (kd = 2 ∨ kd = 3 ∨ kd = 4 ∨ kd = 5) → ∃ g, g < F ∧ a = nI g) (hkb : (kd = 2 ∨ kd = 4) → ∃ g, g < F ∧ b = nI g) (hd : ∃ k, k ≤ 3 ∧ d = nI k) (hc : kd = 5 → c = 1 ∨ c = 2) (hn : ndp (F + 1) (upd (S 1) F kd) (upd (S 2) F a) (upd (S 3) F b) nd') : stOK (F + 1) (addS S F nm kd a b d c) nd' := by
  obtain ⟨⟨h1, h2⟩, h3, h4, h5, h6, h7, h8⟩ := h
  refine ⟨⟨by omega, by omega⟩, wf_add h3 (fun q => ?_) (fun q => ?_), hn, fun f hf => ?_, fun f hf => ?_, h7, fun f hf => ?_⟩
  · obtain ⟨g, hg, rfl⟩ := hka q
    rw [nI_clamp (by omega)]; exact ⟨hg, rfl⟩
  · obtain ⟨g, hg, rfl⟩ := hkb q
    rw [nI_clamp (by omega)]; exact ⟨hg, rfl⟩
  · show (f < 6 → upd (S 1) F kd f = 0) ∧ (6 ≤ f → upd (S 1) F kd f = 1 ∨ upd (S 1) F kd f = 2 ∨ upd (S 1) F kd f = 3 ∨ upd (S 1) F kd f = 4 ∨ upd (S 1) F kd f = 5)
    by_cases e : f = F
    · subst e; rw [pk_us]; exact ⟨fun w => by omega, fun _ => hkd⟩
    · rw [pk_un e]; exact h5 f (by omega)
  · show ∃ k, k ≤ 3 ∧ upd (S 4) F d f = nI k
    by_cases e : f = F
    · subst e; rw [pk_us]; exact hd
    · rw [pk_un e]; exact h6 f (by omega)
  · show upd (S 1) F kd f = 5 → upd (S 5) F c f = 1 ∨ upd (S 5) F c f = 2
    by_cases e : f = F
    · subst e; rw [pk_us, pk_us]; exact hc
    · rw [pk_un e, pk_un e]; exact h8 f (by omega)
