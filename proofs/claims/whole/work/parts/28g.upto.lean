/-! PURE: a row of sums up to x -/
theorem s_makeRoom {fn mo fi us : Int32} {mc ms n x : Nat} {v : Nat → Int32} {Q : Nat → (Nat → Int32) → Prop} (hn : n ≤ 200001) (hx : x ≤ 200000) (hroom : x < n ∨ (1 ≤ mc ∧ nl n x ≤ ms)) (h : ∀ v', (∀ i, i < n → v' i = v i) → Q (sL n x) v') : wX6_makeRoom mc ms fn mo fi us n v (nI x) Q := by
  unfold wX6_makeRoom
  refine pk_lt x n (fun z => ?_) (fun z => pk_lt 200000 x (fun y => by omega) (fun _ => ?_))
  · rw [sL, if_pos z] at h
    exact h v (fun _ _ => rfl)
  · rw [sL, if_neg (by omega)] at h
    have hr := hroom.resolve_left (by omega)
    have hnl := nl_b hn hx z
    refine ⟨_, s_grown hn hx ?_, fun _ h => h⟩
    exact ⟨mc, ms, _, ⟨by omega, by omega⟩, s_copyOf hnl.2.2 hnl.2.1 hr.1 hr.2 (h _ (fun i hi => sb_cpy0 hi)), fun _ _ h => h⟩
theorem sL_b {L x : Nat} (hL : L ≤ 200001) (hx : x ≤ 200000) : x < sL L x ∧ L ≤ sL L x ∧ sL L x ≤ 200001 := by
  rw [sL]
  by_cases z : x < L
  · rw [if_pos z]; omega
  · rw [if_neg z]; have := nl_b hL hx (by omega); omega
/-- what arrays that grow up to L have cost at most -/
def sS (L : Nat) : Nat := if L = 200001 then 600001 else 2 * L
theorem sS_nl {L x : Nat} (hL : L ≤ 200001) (hx : x ≤ 200000) (h : L ≤ x) : nl L x + sS L ≤ sS (nl L x) := by
  have hb := nl_b hL hx h
  rw [sS, sS, if_neg (by omega)]
  by_cases e : nl L x = 200001
  · rw [if_pos e, e]; omega
  · rw [if_neg e]
    have : 2 * L ≤ nl L x := by
      rw [nl] at e ⊢
      by_cases c : 200001 < 2 * L
      · rw [if_pos c] at e ⊢
        split at e <;> omega
      · rw [if_neg c]; split <;> omega
    omega
def sK (L x : Nat) : Nat := if x < L then 0 else nl L x
theorem sK_b {L x : Nat} (hL : L ≤ 200001) (hx : x ≤ 200000) : sK L x + sS L ≤ sS (sL L x) := by
  rw [sK, sL]
  by_cases z : x < L
  · rw [if_pos z, if_pos z]; omega
  · rw [if_neg z, if_neg z]; exact sS_nl hL hx (by omega)
theorem sK_r {L x : Nat} {mc : Nat} (h : 1 ≤ mc) : x < L ∨ (1 ≤ mc ∧ nl L x ≤ sK L x) := by
  rw [sK]
  by_cases z : x < L
  · exact Or.inl z
  · rw [if_neg z]; exact Or.inr ⟨h, Nat.le_refl _⟩
def s4 (rn : Nat → Nat) : Nat := sS (rn 0) + sS (rn 1) + sS (rn 2) + sS (rn 3)
theorem s4_up {rn : Nat → Nat} {k n : Nat} (hk : k < 4) : s4 (va_up rn k n) + sS (rn k) = s4 rn + sS n := by
  have : k = 0 ∨ k = 1 ∨ k = 2 ∨ k = 3 := by omega
  unfold s4
  rcases this with rfl | rfl | rfl | rfl
  · rw [va_up_self, va_up_ne _ _ (by omega), va_up_ne _ _ (by omega), va_up_ne _ _ (by omega)]; omega
  · rw [va_up_self, va_up_ne _ _ (by omega), va_up_ne _ _ (by omega), va_up_ne _ _ (by omega)]; omega
  · rw [va_up_self, va_up_ne _ _ (by omega), va_up_ne _ _ (by omega), va_up_ne _ _ (by omega)]; omega
  · rw [va_up_self, va_up_ne _ _ (by omega), va_up_ne _ _ (by omega), va_up_ne _ _ (by omega)]; omega
/-- the pool of rows, without what it holds -/
def poolE (T : Nat) (ru : Nat → Int32) (rn : Nat → Nat) : Prop := ∀ k, k < 4 → 2 ≤ rn k ∧ rn k ≤ 200001 ∧ ∃ u, u ≤ T ∧ ru k = nI u
/-- what the rows hold -/
def poolV (F : Nat) (K A B C N : Nat → Int32) (rf rm rl : Nat → Int32) (rn : Nat → Nat) (rv : Nat → Nat → Int32) : Prop := ∀ k, k < 4 → rf k = -1 ∨ ∃ f m l, f < F ∧ rf k = nI f ∧ 2 ≤ m ∧ m ≤ 1000003 ∧ rm k = nI m ∧ rl k = nI l ∧ rowOK (tv K A B C N m f) m l (rn k) (rv k)
/-- row k holds the sums of f by M up to x at least -/
def rowAt (K A B C N : Nat → Int32) (M f x : Nat) (rf rm rl : Nat → Int32) (rn : Nat → Nat) (rv : Nat → Nat → Int32) (k : Nat) : Prop := k < 4 ∧ rf k = nI f ∧ rm k = nI M ∧ ∃ l, x ≤ l ∧ rl k = nI l ∧ rowOK (tv K A B C N M f) M l (rn k) (rv k)
theorem nI_m1 {f : Nat} (h : f < 2 ^ 31) : ¬ nI f = -1 := fun e => by
  have := congrArg Int32.toInt e
  rw [nI_toInt h, show (-1 : Int32).toInt = -1 from by decide] at this
  omega
theorem s_upTo {bo se : Int32} {needs K A B C N rf rm rl ru : Nat → Int32} {rn : Nat → Nat} {M f F x T L : Nat} (hw : wfp F K A B) (hn : ndp F K A B needs) (hF : F ≤ 12) (hM : 2 ≤ M) (hM2 : M ≤ 1000003) (hf : f < F) (hx : x ≤ 200000) (hT : T < 2 ^ 30) (hp : poolE T ru rn) (hL : 2 ≤ L) (hL2 : L ≤ 200001) (hrl : ∀ k, k < 4 → rf k = -1 ∨ ∃ l, rl k = nI l ∧ l < 2 ^ 31) : ∃ (k : Nat) (rf' rm' rl' ru' : Nat → Int32) (rn' : Nat → Nat) (L' ms : Nat), k < 4 ∧ poolE (T + 1) ru' rn' ∧ 2 ≤ L' ∧ L' ≤ 200001 ∧ L ≤ L' ∧ ms + (sS L + s4 rn) ≤ sS L' + s4 rn' ∧ (∀ k, k < 4 → rf' k = -1 ∨ ∃ l, rl' k = nI l ∧ l < 2 ^ 31) ∧ rf' k = nI f ∧ rm' k = nI M ∧ ru' k = nI (T + 1) ∧ (∀ j, j ≠ k → rf' j = rf j ∧ rm' j = rm j ∧ rl' j = rl j ∧ ru' j = ru j ∧ rn' j = rn j) ∧ ((rf k = nI f ∧ rm k = nI M) ∨ ∀ j, j < 4 → ru k ≤ ru j) ∧ ∀ (rv : Nat → Nat → Int32) (least cells P : Nat → Int32), poolV F K A B C N rf rm rl rn rv → svOK L least → pw cells P → ∀ Q, (∀ (rv' : Nat → Nat → Int32) (least' cells' P' : Nat → Int32), poolV F K A B C N rf' rm' rl' rn' rv' → svOK L' least' → pw cells' P' → rowAt K A B C N M f x rf' rm' rl' rn' rv' k → (∀ j, j ≠ k → rv' j = rv j) → Q k rf' rm' rl' ru' rn' rv' (nI (T + 1)) L' least' cells' P') → wX7_upTo 2 ms bo (nI M) se (nI F) rf rm rl ru rn rv (nI T) L least needs cells P A B K N C (nI f) (nI x) Q := by
  obtain ⟨k, hk, hcase⟩ : ∃ k, k < 4 ∧ ((rf k = nI f ∧ rm k = nI M ∧ ∀ (rv : Nat → Nat → Int32) Q, Q k rf rm rl rv → wX7_rowOf (nI T) rf rm rl ru rn rv (nI f) (nI M) Q) ∨ ((∀ j, j < 4 → ru k ≤ ru j) ∧ ∀ (rv : Nat → Nat → Int32) Q, Q k (upd rf k (nI f)) (upd rm k (nI M)) (upd rl k 1) (va_up rv k (upd (upd (rv k) 0 0) 1 1)) → wX7_rowOf (nI T) rf rm rl ru rn rv (nI f) (nI M) Q)) := by
    have hnn : ∀ k, k < 4 → 2 ≤ rn k ∧ rn k ≤ 200001 := fun k hk => ⟨(hp k hk).1, (hp k hk).2.1⟩
    obtain ⟨k, hk, hc⟩ := s_rowOf_k (turn := nI T) (a := nI f) (b := nI M) (rf := rf) (rm := rm) (rl := rl) (ru := ru) hnn
    exact ⟨k, hk, hc⟩
  obtain ⟨u, hu, hru⟩ := (hp k hk).2.2
  have hpk := hp k hk
  have one : ∀ g : Nat → Nat → Nat, ∀ v : Nat → Int32, rowOK g M 1 (rn k) (upd (upd v 0 0) 1 1) := by
    intro g v
    refine ⟨by omega, by omega, hpk.2.1, fun i hi => ?_⟩
    have : i = 0 ∨ i = 1 := by omega
    rcases this with rfl | rfl
    · rw [pk_un (by omega), pk_us]; rfl
    · rw [pk_us, sV_1 hM]; rfl
  -- the row that is picked, as it is before it grows
  obtain ⟨rf1, rm1, rl1, l, hl, hrf1, hrm1, hrl1, hoth, hpick, hstep⟩ : ∃ (rf1 rm1 rl1 : Nat → Int32) (l : Nat), l < 2 ^ 31 ∧ rf1 k = nI f ∧ rm1 k = nI M ∧ rl1 k = nI l ∧ (∀ j, j ≠ k → rf1 j = rf j ∧ rm1 j = rm j ∧ rl1 j = rl j) ∧ ((rf k = nI f ∧ rm k = nI M) ∨ ∀ j, j < 4 → ru k ≤ ru j) ∧ ∀ (rv : Nat → Nat → Int32), poolV F K A B C N rf rm rl rn rv → ∃ v, rowOK (tv K A B C N M f) M l (rn k) v ∧ ∀ Q, Q k rf1 rm1 rl1 (va_up rv k v) → wX7_rowOf (nI T) rf rm rl ru rn rv (nI f) (nI M) Q := by
    rcases hcase with ⟨h1, h2, h3⟩ | ⟨h1, h3⟩
    · obtain ⟨l, hl1, hl2⟩ := (hrl k hk).resolve_left (fun e => nI_m1 (by omega) (h1.symm.trans e))
      refine ⟨rf, rm, rl, l, hl2, h1, h2, hl1, fun j _ => ⟨rfl, rfl, rfl⟩, Or.inl ⟨h1, h2⟩, fun rv hv => ⟨rv k, ?_, fun Q hQ => h3 rv Q (by rw [va_same] at hQ; exact hQ)⟩⟩
      rcases hv k hk with e | ⟨f2, m2, l2, a1, a2, a3, a4, a5, a6, a7⟩
      · exact absurd (h1.symm.trans e) (nI_m1 (by omega))
      · have ef : f = f2 := (nI_eq (by omega) (by omega)).mp (h1.symm.trans a2)
        have em : M = m2 := (nI_eq (by omega) (by omega)).mp (h2.symm.trans a5)
        have el : l = l2 := (nI_eq hl2 (by have := a7.2.1; have := a7.2.2.1; omega)).mp (hl1.symm.trans a6)
        subst ef em el
        exact a7
    · refine ⟨upd rf k (nI f), upd rm k (nI M), upd rl k 1, 1, by omega, pk_us, pk_us, pk_us, fun j hj => ⟨pk_un hj, pk_un hj, pk_un hj⟩, Or.inr h1, fun rv hv => ⟨_, one _ (rv k), fun Q hQ => h3 rv Q hQ⟩⟩
  have hLb := sL_b hL2 hx
  have hnb := sL_b (L := rn k) hpk.2.1 hx
  by_cases hxl : x ≤ l
  · -- nothing grows
    refine ⟨k, rf1, rm1, rl1, upd ru k (nI (T + 1)), rn, L, 0, hk, fun j hj => ?_, hL, hL2, Nat.le_refl L, by omega, fun j hj => ?_, hrf1, hrm1, pk_us, fun j hj => ⟨(hoth j hj).1, (hoth j hj).2.1, (hoth j hj).2.2, pk_un hj, rfl⟩, hpick, ?_⟩
    · obtain ⟨b1, b2, u2, b3, b4⟩ := hp j hj
      refine ⟨b1, b2, ?_⟩
      by_cases e : j = k
      · subst e; exact ⟨T + 1, Nat.le_refl _, pk_us⟩
      · exact ⟨u2, by omega, by rw [pk_un e]; exact b4⟩
    · by_cases e : j = k
      · subst e; exact Or.inr ⟨l, hrl1, hl⟩
      · rw [(hoth j e).1, (hoth j e).2.2]; exact hrl j hj
    · intro rv least cells P hv hsv hpw Q hQ
      obtain ⟨v, hv1, hro⟩ := hstep rv hv
      unfold wX7_upTo
      refine ⟨_, hro _ ?_, fun _ _ _ _ _ h => h⟩
      rw [nI_1]
      rintro t rfl r1 rfl
      rw [hrl1]
      refine pk_le x l (fun _ => ?_) (fun z => by omega)
      refine hQ (va_up rv k v) least cells P (fun j hj => ?_) hsv hpw ⟨hk, hrf1, hrm1, l, hxl, hrl1, by rw [va_up_self]; exact hv1⟩ (fun j hj => va_up_ne _ _ hj)
      by_cases e : j = k
      · subst e
        exact Or.inr ⟨f, M, l, hf, hrf1, hM, hM2, hrm1, hrl1, by rw [va_up_self]; exact hv1⟩
      · rw [(hoth j e).1, (hoth j e).2.1, (hoth j e).2.2, va_up_ne _ _ e]
        exact hv j hj
  · have hk1 := sK_b (L := L) hL2 hx
    have hk2 := sK_b (L := rn k) hpk.2.1 hx
    have hs4 := s4_up (rn := rn) (n := sL (rn k) x) hk
    refine ⟨k, rf1, rm1, upd rl1 k (nI x), upd ru k (nI (T + 1)), va_up rn k (sL (rn k) x), sL L x, sK L x + sK (rn k) x, hk, fun j hj => ?_, by omega, hLb.2.2, hLb.2.1, by omega, fun j hj => ?_, hrf1, hrm1, pk_us, fun j hj => ⟨(hoth j hj).1, (hoth j hj).2.1, by rw [pk_un hj]; exact (hoth j hj).2.2, pk_un hj, va_up_ne _ _ hj⟩, hpick, ?_⟩
    · obtain ⟨b1, b2, u2, b3, b4⟩ := hp j hj
      by_cases e : j = k
      · subst e
        rw [va_up_self]
        exact ⟨by omega, hnb.2.2, T + 1, Nat.le_refl _, pk_us⟩
      · rw [va_up_ne _ _ e]
        exact ⟨b1, b2, u2, by omega, by rw [pk_un e]; exact b4⟩
    · by_cases e : j = k
      · subst e; exact Or.inr ⟨x, pk_us, by omega⟩
      · rw [pk_un e, (hoth j e).1, (hoth j e).2.2]; exact hrl j hj
    · intro rv least cells P hv hsv hpw Q hQ
      obtain ⟨v, hv1, hro⟩ := hstep rv hv
      unfold wX7_upTo
      refine ⟨_, hro _ ?_, fun _ _ _ _ _ h => h⟩
      rw [nI_1]
      rintro t rfl r1 rfl
      rw [hrl1]
      refine pk_le x l (fun z => by omega) (fun _ => ?_)
      refine ⟨1, sK L x, _, ⟨by omega, by omega⟩, s_reach hL hL2 hx hsv (sK_r (by omega)) (fun least' hsv' => ?_), fun _ _ h => h⟩
      rw [va_up_self]
      refine ⟨1, sK (rn k) x, _, ⟨by omega, by omega⟩, s_makeRoom hpk.2.1 hx (sK_r (by omega)) (fun v2 hv2 => ?_), fun _ _ h => h⟩
      rintro rn1 rfl r2 rfl
      have hrow : rowOK (tv K A B C N M f) M l (va_up rn k (sL (rn k) x) k) (va_up (va_up rv k v) k v2 k) := by
        rw [va_up_self, va_up_self]
        exact ⟨hv1.1, by have := hv1.2.1; omega, hnb.2.2, fun i hi => by rw [hv2 i (by have := hv1.2.1; omega)]; exact hv1.2.2.2 i hi⟩
      refine ⟨_, s_fill hw hn hF hM hM2 hf hpw hsv' hLb.2.2 hrf1 hrm1 hrl1 hrow (by omega) (by rw [va_up_self]; exact hnb.1) hLb.1 (fun v3 cells' P' hpw' hv3 => ?_), fun _ _ _ _ h => h⟩
      rw [va_up_self] at hv3
      refine hQ _ least' cells' P' (fun j hj => ?_) hsv' hpw' ⟨hk, hrf1, hrm1, x, Nat.le_refl x, pk_us, by rw [va_up_self, va_up_self]; exact hv3⟩ (fun j hj => by rw [va_up_ne _ _ hj, va_up_ne _ _ hj, va_up_ne _ _ hj])
      by_cases e : j = k
      · subst e
        exact Or.inr ⟨f, M, x, hf, hrf1, hM, hM2, hrm1, pk_us, by rw [va_up_self, va_up_self]; exact hv3⟩
      · rw [(hoth j e).1, (hoth j e).2.1, pk_un e, (hoth j e).2.2, va_up_ne _ _ e, va_up_ne _ _ e, va_up_ne _ _ e, va_up_ne _ _ e]
        exact hv j hj
