/-! PURE: the reference's marks of numbers without squares and of full ones -/
def bad (w q n : Nat) : Prop := (w = 0 ∧ q * q ∣ n) ∨ (¬ w = 0 ∧ q ∣ n ∧ ¬ q * q ∣ n)
theorem s_laysKinds {qth qta qli qsi qat qpl qso qva qfa qfp qlf qlp qun qhi qro qar qiS qbl qdr : Int32} {marks row : Nat → Int32} {x w : Nat} {Q : Int32 → (Nat → Int32) → Prop} (hmk : mkOK marks) (hx : x ≤ 200000) (hw : w ≤ 1) (h : ∀ row', (∀ n, 1 ≤ n → n ≤ x → (row' n = 0 ∨ row' n = 1) ∧ (row' n = 0 ↔ ∃ q, isP q ∧ bad w q n)) → Q (-1) row') : wX11_laysKinds qth qta qli qsi qat qpl qso qva qfa qfp qlf qlp qun qhi qro qar qiS qbl qdr marks row (nI w) (nI x) Q := by
  unfold wX11_laysKinds
  refine ⟨_, s_forgets ?_, fun _ h => h⟩
  have ini : ∀ (j : Nat) (r : Nat → Int32) (v : Int32), (∀ n, 1 ≤ n → n < j → r n = 1) → (1 ≤ j → v = 1) → ∀ n, 1 ≤ n → n < j + 1 → upd r j v n = 1 := by
    intro j r v hr hv n h1 h2
    by_cases e : n = j
    · subst e; rw [pk_us]; exact hv h1
    · rw [pk_un e]; exact hr n h1 (by omega)
  refine ⟨fun r y => ∃ j : Nat, j ≤ x + 1 ∧ y = nI j ∧ ∀ n, 1 ≤ n → n < j → r n = 1, fun _ y => 200002 - y.toNatClampNeg, ⟨0, by omega, rfl, fun n _ hn => by omega⟩, ?_⟩
  rintro r y ⟨j, hj, rfl, hr⟩
  refine pk_lt x j (fun z => ?_) (fun z => ?_)
  · refine ⟨fun r y => ∃ p : Nat, 2 ≤ p ∧ p ≤ x + 2 ∧ y = nI p ∧ ∀ n, 1 ≤ n → n ≤ x → (r n = 0 ∨ r n = 1) ∧ (r n = 0 ↔ ∃ q, isP q ∧ q < p ∧ bad w q n), fun _ y => 200003 - y.toNatClampNeg, ⟨2, by omega, by omega, rfl, fun n h1 h2 => ?_⟩, ?_⟩
    · rw [hr n h1 (by omega)]
      exact ⟨Or.inr rfl, fun e => absurd e (by decide), fun ⟨q, hq, hq2, _⟩ => by have := hq.1; omega⟩
    rintro r y ⟨p, hp1, hp2, rfl, hr⟩
    refine pk_lt x p (fun z2 => h r (fun n h1 h2 => ⟨(hr n h1 h2).1, (hr n h1 h2).2.trans ⟨fun ⟨q, a, _, b⟩ => ⟨q, a, b⟩, fun ⟨q, a, b⟩ => ⟨q, a, ?_, b⟩⟩⟩)) (fun z2 => ?_)
    · have hqn : q ∣ n := by
        rcases b with ⟨_, b⟩ | ⟨_, b, _⟩
        · exact Nat.dvd_trans (Nat.dvd_mul_left q q) b
        · exact b
      have := Nat.le_of_dvd h1 hqn
      omega
    · rw [nI_1]
      have keep : (∀ n, 1 ≤ n → n ≤ x → ¬ (isP p ∧ bad w p n)) → ((∃ p2 : Nat, 2 ≤ p2 ∧ p2 ≤ x + 2 ∧ nI (p + 1) = nI p2 ∧ ∀ n, 1 ≤ n → n ≤ x → (r n = 0 ∨ r n = 1) ∧ (r n = 0 ↔ ∃ q, isP q ∧ q < p2 ∧ bad w q n)) ∧ 200003 - (nI (p + 1)).toNatClampNeg < 200003 - (nI p).toNatClampNeg) := by
        intro hnb
        refine ⟨⟨p + 1, by omega, by omega, rfl, fun n h1 h2 => ⟨(hr n h1 h2).1, (hr n h1 h2).2.trans ⟨fun ⟨q, a, b, c⟩ => ⟨q, a, by omega, c⟩, fun ⟨q, a, b, c⟩ => ⟨q, a, ?_, c⟩⟩⟩⟩, ms_up (by omega) (by omega)⟩
        have : q ≠ p := fun e => hnb n h1 h2 ⟨e ▸ a, e ▸ c⟩
        omega
      refine ⟨_, s_isPrimeM hmk (by omega) (fun hnp => c0 (keep (fun n _ _ w => hnp w.1))) (fun hP => c1 ?_), fun _ h => h⟩
      refine ⟨True, ?_, fun _ => ?_⟩
      · refine pn_eq w 0 (fun _ => trivial) (fun e => ⟨nI_ne0 (by omega) (by omega), ?_⟩)
        have hd : x / p ≤ x := Nat.div_le_self _ _
        rw [pk_div (by omega) (by omega) (by omega)]
        refine pk_le p (x / p) (fun _ => trivial) (fun z3 => keep (fun n h1 h2 hb => ?_))
        rcases hb.2 with ⟨_, b⟩ | ⟨b, _⟩
        · have h3 := Nat.le_of_dvd h1 b
          have := (Nat.le_div_iff_mul_le (show 0 < p by omega)).mpr (show p * p ≤ x by omega)
          omega
        · exact b e
      · refine ⟨fun r3 y => ∃ j : Nat, p ∣ j ∧ 1 ≤ j ∧ j ≤ x + p ∧ y = nI j ∧ ∀ n, 1 ≤ n → n ≤ x → (r3 n = 0 ∨ r3 n = 1) ∧ (r3 n = 0 ↔ (∃ q, isP q ∧ q < p ∧ bad w q n) ∨ (p ∣ n ∧ n < j ∧ bad w p n)), fun _ y => 400010 - y.toNatClampNeg, ⟨p, Nat.dvd_refl _, by omega, by omega, rfl, fun n h1 h2 => ⟨(hr n h1 h2).1, (hr n h1 h2).2.trans ⟨Or.inl, fun a => a.elim id (fun b => by have := Nat.le_of_dvd h1 b.1; omega)⟩⟩⟩, ?_⟩
        rintro r3 y ⟨j, hj1, hj2, hj3, rfl, hr3⟩
        refine pk_lt x j (fun z3 => ?_) (fun z3 => ⟨nI_ne0 (by omega) (by omega), ?_⟩)
        · refine ⟨⟨p + 1, by omega, by omega, rfl, fun n h1 h2 => ⟨(hr3 n h1 h2).1, (hr3 n h1 h2).2.trans ⟨?_, ?_⟩⟩⟩, ms_up (by omega) (by omega)⟩
          · rintro (⟨q, a, b, c⟩ | ⟨a, b, c⟩)
            · exact ⟨q, a, by omega, c⟩
            · exact ⟨p, hP, by omega, c⟩
          · rintro ⟨q, a, b, c⟩
            by_cases e : q = p
            · subst e
              refine Or.inr ⟨?_, by omega, c⟩
              rcases c with ⟨_, c⟩ | ⟨_, c, _⟩
              · exact Nat.dvd_trans (Nat.dvd_mul_left q q) c
              · exact c
            · exact Or.inl ⟨q, a, by omega, c⟩
        · obtain ⟨t, ht⟩ := hj1
          have ht0 : 0 < t := Nat.pos_of_ne_zero (fun e => by subst e; omega)
          have htj : t ≤ j := by rw [ht]; exact Nat.le_mul_of_pos_left t (by omega)
          have hpp : t % p = 0 ↔ p * p ∣ j := by
            rw [ht, Nat.mul_dvd_mul_iff_left (by omega)]
            exact ⟨Nat.dvd_of_mod_eq_zero, Nat.mod_eq_zero_of_dvd⟩
          have hpj : p ∣ j := ⟨t, ht⟩
          rw [pk_div (by omega) (by omega) (by omega), show j / p = t by rw [ht, Nat.mul_div_cancel_left t (by omega)], pk_rem (by omega) (by omega) (by omega), nI_clamp (by omega), nI_add]
          have htp := Nat.mod_lt t (show 0 < p by omega)
          have hdj : p ∣ j + p := Nat.dvd_add hpj (Nat.dvd_refl p)
          have hmea : 400010 - (nI (j + p)).toNatClampNeg < 400010 - (nI j).toNatClampNeg := by
            rw [nI_clamp (by omega), nI_clamp (by omega)]; omega
          have skip : ¬ bad w p j → ((∃ j2 : Nat, p ∣ j2 ∧ 1 ≤ j2 ∧ j2 ≤ x + p ∧ nI (j + p) = nI j2 ∧ ∀ n, 1 ≤ n → n ≤ x → (r3 n = 0 ∨ r3 n = 1) ∧ (r3 n = 0 ↔ (∃ q, isP q ∧ q < p ∧ bad w q n) ∨ (p ∣ n ∧ n < j2 ∧ bad w p n))) ∧ 400010 - (nI (j + p)).toNatClampNeg < 400010 - (nI j).toNatClampNeg) := by
            intro hnb
            refine ⟨⟨j + p, hdj, by omega, by omega, rfl, fun n h1 h2 => ⟨(hr3 n h1 h2).1, (hr3 n h1 h2).2.trans ⟨?_, ?_⟩⟩⟩, hmea⟩
            · rintro (a | ⟨a, b, c⟩)
              · exact Or.inl a
              · exact Or.inr ⟨a, by omega, c⟩
            · rintro (a | ⟨a, b, c⟩)
              · exact Or.inl a
              · rcases Nat.lt_or_ge n j with y | y
                · exact Or.inr ⟨a, y, c⟩
                · have := mult_gap a hpj y b
                  subst this
                  exact absurd c hnb
          have put : bad w p j → ((∃ j2 : Nat, p ∣ j2 ∧ 1 ≤ j2 ∧ j2 ≤ x + p ∧ nI (j + p) = nI j2 ∧ ∀ n, 1 ≤ n → n ≤ x → (upd r3 j 0 n = 0 ∨ upd r3 j 0 n = 1) ∧ (upd r3 j 0 n = 0 ↔ (∃ q, isP q ∧ q < p ∧ bad w q n) ∨ (p ∣ n ∧ n < j2 ∧ bad w p n))) ∧ 400010 - (nI (j + p)).toNatClampNeg < 400010 - (nI j).toNatClampNeg) := by
            intro hb
            refine ⟨⟨j + p, hdj, by omega, by omega, rfl, fun n h1 h2 => ?_⟩, hmea⟩
            by_cases e : n = j
            · subst e
              rw [pk_us]
              exact ⟨Or.inl rfl, fun _ => Or.inr ⟨hpj, by omega, hb⟩, fun _ => rfl⟩
            · rw [pk_un e]
              refine ⟨(hr3 n h1 h2).1, (hr3 n h1 h2).2.trans ⟨?_, ?_⟩⟩
              · rintro (a | ⟨a, b, c⟩)
                · exact Or.inl a
                · exact Or.inr ⟨a, by omega, c⟩
              · rintro (a | ⟨a, b, c⟩)
                · exact Or.inl a
                · rcases Nat.lt_or_ge n j with y | y
                  · exact Or.inr ⟨a, y, c⟩
                  · exact absurd (mult_gap a hpj y b) e
          refine pn_eq (t % p) 0 (fun e => pn_eq w 0 (fun e2 => ⟨pk_in j 200001 (by omega), ?_⟩) (fun e2 => ?_)) (fun e => pn_eq w 0 (fun e2 => ?_) (fun e2 => ⟨pk_in j 200001 (by omega), ?_⟩))
          · rintro r4 rfl y rfl
            exact put (Or.inr ⟨e2, hpj, fun c => e (hpp.mpr c)⟩)
          · rintro y rfl
            refine skip (fun b => ?_)
            rcases b with ⟨_, b⟩ | ⟨b, _⟩
            · exact e (hpp.mpr b)
            · exact b e2
          · rintro y rfl
            refine skip (fun b => ?_)
            rcases b with ⟨b, _⟩ | ⟨_, _, b⟩
            · exact e2 b
            · exact b (hpp.mp e)
          · rintro r4 rfl y rfl
            exact put (Or.inl ⟨e2, hpp.mp e⟩)
  · rw [nI_clamp (by omega), nI_1]
    refine pn_eq j 0 (fun e => ⟨pk_in j 200001 (by omega), ?_⟩) (fun e => ⟨pk_in j 200001 (by omega), ?_⟩)
    · rintro r2 rfl
      exact ⟨⟨j + 1, by omega, rfl, ini j r 1 hr (fun _ => rfl)⟩, ms_up (by omega) (by omega)⟩
    · rintro r2 rfl
      exact ⟨⟨j + 1, by omega, rfl, ini j r 0 hr (fun h => by omega)⟩, ms_up (by omega) (by omega)⟩
