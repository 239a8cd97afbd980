/-! PURE: mu, numbers without squares, full numbers -/
def gmu (_ k : Nat) : Nat := if k = 1 then 2 else 0
def d3 (v : Nat) : Int := if v = 0 then 0 else if v = 1 then 1 else -1
def mu (n : Nat) : Int := d3 (vV gmu 3 n)
theorem d3_neg {v : Nat} (h : v < 3) : d3 (v * 2 % 3) = - d3 v := by
  have : v = 0 ∨ v = 1 ∨ v = 2 := by omega
  rcases this with rfl | rfl | rfl <;> rfl
theorem mu_1 : mu 1 = 1 := by rw [mu, vV_1]; rfl
theorem mu_p {p m : Nat} (hp : isP p) (hm : 0 < m) (hn : ¬ p ∣ m) : mu (p * m) = - mu m := by
  have h := vV_split (g := gmu) (M := 3) (k := 1) (by omega) hp (by omega) hm hn
  rw [Nat.pow_one] at h
  rw [mu, h, mu, show gmu p 1 = 2 from rfl]
  exact d3_neg (vV_lt (by omega))
theorem mu_sq {p m k : Nat} (hp : isP p) (hk : 2 ≤ k) (hm : 0 < m) (hn : ¬ p ∣ m) : mu (p ^ k * m) = 0 := by
  rw [mu, vV_split (g := gmu) (M := 3) (by omega) hp (by omega) hm hn, show gmu p k = 0 from if_neg (by omega), Nat.mul_zero]
  rfl
theorem mu_dvd {p e : Nat} (hp : isP p) (he : 0 < e) (h : p ∣ e) : mu (p * e) = 0 := by
  obtain ⟨m, h1, h2, h3⟩ := vp_split hp.1 e he
  have hv := (vp_pos_iff hp.1 he).mpr h
  have e2 : p * e = p ^ (vp p e + 1) * m := by rw [Nat.pow_succ, Nat.mul_comm (p ^ vp p e) p, Nat.mul_assoc, ← h1]
  rw [e2]
  exact mu_sq hp (by omega) h3 h2
theorem mu_vp {p b : Nat} (hp : isP p) (hb : 0 < b) (h : mu b ≠ 0) : vp p b ≤ 1 := by
  rcases Nat.lt_or_ge 1 (vp p b) with z | z
  · obtain ⟨m, h1, h2, h3⟩ := vp_split hp.1 b hb
    rw [h1, mu_sq hp z h3 h2] at h
    exact absurd rfl h
  · exact z
theorem mu_cases (n : Nat) : mu n = 0 ∨ mu n = 1 ∨ mu n = -1 := by
  rw [mu, d3]
  by_cases h : vV gmu 3 n = 0
  · rw [if_pos h]; exact Or.inl rfl
  · rw [if_neg h]
    by_cases h : vV gmu 3 n = 1
    · rw [if_pos h]; exact Or.inr (Or.inl rfl)
    · rw [if_neg h]; exact Or.inr (Or.inr rfl)
/-- some prime is in n twice -/
def sq (n : Nat) : Prop := ∃ p, isP p ∧ p * p ∣ n
theorem mu_sum {n : Nat} (hn : 0 < n) : (sq n → sg (fun d => if d * d ∣ n then mu d else 0) n = 0) ∧ (¬ sq n → sg (fun d => if d * d ∣ n then mu d else 0) n = 1) := by
  constructor
  · rintro ⟨p, hp, hpn⟩
    have h0 : 0 < p := by have := hp.1; omega
    have e1 : sg (fun d => if d * d ∣ n then mu d else 0) n = sg (fun d => (if p ∣ d then (if d * d ∣ n then mu d else 0) else 0) + (if p ∣ d then 0 else (if d * d ∣ n then mu d else 0))) n :=
      sg_cong (fun d _ _ => by by_cases a : p ∣ d <;> simp [a])
    have big : ∀ d, 1 ≤ d → ¬ p ∣ d → d * d ∣ n → (p * d) * (p * d) ∣ n := by
      intro d _ h1 h2
      have hc : Nat.Coprime p d := isP_coprime hp h1
      have hcc : Nat.Coprime (p * p) (d * d) := Nat.Coprime.mul_left (Nat.Coprime.mul_right hc hc) (Nat.Coprime.mul_right hc hc)
      rw [Nat.mul_mul_mul_comm]
      exact hcc.mul_dvd_of_dvd_of_dvd hpn h2
    have e2 : sg (fun e => if (p * e) * (p * e) ∣ n then mu (p * e) else 0) (n / p) = - sg (fun d => if p ∣ d then 0 else (if d * d ∣ n then mu d else 0)) (n / p) := by
      rw [← sg_neg]
      refine sg_cong (fun e h1 _ => ?_)
      by_cases a : p ∣ e
      · rw [if_pos a, mu_dvd hp h1 a]; simp
      · rw [if_neg a, mu_p hp h1 a]
        by_cases b : e * e ∣ n
        · rw [if_pos b, if_pos (big e h1 a b)]
        · rw [if_neg b, if_neg (fun z => b (Nat.dvd_trans (by rw [Nat.mul_mul_mul_comm]; exact Nat.dvd_mul_left _ _) z))]; rfl
    have e3 : sg (fun d => if p ∣ d then 0 else (if d * d ∣ n then mu d else 0)) n = sg (fun d => if p ∣ d then 0 else (if d * d ∣ n then mu d else 0)) (n / p) := by
      refine sg_more (Nat.div_le_self n p) (fun k h1 h2 => ?_)
      by_cases a : p ∣ k
      · rw [if_pos a]
      · rw [if_neg a]
        refine if_neg (fun b => ?_)
        have hk0 : 0 < k := Nat.lt_of_le_of_lt (Nat.zero_le _) h1
        have h3 := Nat.le_of_dvd hn (big k hk0 a b)
        have h4 : p * k ≤ (p * k) * (p * k) := Nat.le_mul_of_pos_left _ (Nat.mul_pos h0 hk0)
        have h5 := (Nat.le_div_iff_mul_le h0).mpr (show k * p ≤ n by rw [Nat.mul_comm]; omega)
        omega
    rw [e1, sg_add, sg_sub h0, e2, e3]
    omega
  · intro h
    rw [sg_single (a := 1) (by omega) (by omega) (fun k h1 h2 h3 => if_neg (fun z => by
      obtain ⟨p, hp, hpk, -⟩ := least_div (n := k) (by omega)
      exact h ⟨p, hp, Nat.dvd_trans (Nat.mul_dvd_mul hpk hpk) z⟩)), if_pos (by rw [Nat.mul_one]; exact Nat.one_dvd n)]
    exact mu_1
theorem free_sum {x D : Nat} (hD : D * D ≤ x) (hD2 : x < (D + 1) * (D + 1)) (c : Nat → Int) (hc0 : ∀ n, 1 ≤ n → n ≤ x → sq n → c n = 0) (hc1 : ∀ n, 1 ≤ n → n ≤ x → ¬ sq n → c n = 1) : sg (fun d => mu d * ((x / (d * d) : Nat) : Int)) D = sg c x := by
  have hDx : D ≤ x := by
    rcases Nat.eq_zero_or_pos D with z | z
    · omega
    · exact Nat.le_trans (Nat.le_mul_of_pos_left D z) hD
  rw [← sg_more (f := fun d => mu d * ((x / (d * d) : Nat) : Int)) hDx (fun k h1 _ => by
    have : (D + 1) * (D + 1) ≤ k * k := Nat.mul_le_mul h1 h1
    rw [Nat.div_eq_of_lt (by omega)]; simp)]
  have e1 : sg (fun d => mu d * ((x / (d * d) : Nat) : Int)) x = sg (fun d => sg (fun n => if d * d ∣ n then mu d else 0) x) x :=
    sg_cong (fun d _ _ => by rw [sg_mult, Int.mul_comm])
  rw [e1, sg_swap]
  refine sg_cong (fun n h1 h2 => ?_)
  rw [sg_more h2 (fun k h3 _ => if_neg (fun z => by
    have := Nat.le_of_dvd h1 z
    have := Nat.le_mul_of_pos_left k (show 0 < k by omega)
    omega))]
  by_cases a : sq n
  · rw [(mu_sum h1).1 a, hc0 n h1 h2 a]
  · rw [(mu_sum h1).2 a, hc1 n h1 h2 a]
/-- every prime of n is in it twice -/
def fl (n : Nat) : Prop := ∀ p, isP p → p ∣ n → p * p ∣ n
theorem vp_ext : ∀ a b : Nat, 0 < a → 0 < b → (∀ p, isP p → vp p a = vp p b) → a = b := by
  intro a
  induction a using Nat.strongRecOn with
  | ind a ih =>
    intro b ha hb h
    by_cases h1 : a = 1
    · subst h1
      by_cases h2 : b = 1
      · exact h2.symm
      · obtain ⟨p, hp, hpb, -⟩ := least_div (n := b) (by omega)
        have := (vp_pos_iff hp.1 hb).mpr hpb
        rw [← h p hp, vp_no (fun z => by have := Nat.le_of_dvd (by omega) z; have := hp.1; omega)] at this
        omega
    · obtain ⟨p, hp, ⟨a2, rfl⟩, -⟩ := least_div (n := a) (by omega)
      have h0 : 0 < p := by have := hp.1; omega
      have ha2 : 0 < a2 := Nat.pos_of_ne_zero (fun z => by subst z; omega)
      have hv := (vp_pos_iff hp.1 ha).mpr (Nat.dvd_mul_right p a2)
      rw [h p hp] at hv
      obtain ⟨b2, rfl⟩ := (vp_pos_iff hp.1 hb).mp hv
      have hb2 : 0 < b2 := Nat.pos_of_ne_zero (fun z => by subst z; omega)
      rw [ih a2 (by have := Nat.mul_le_mul_right a2 hp.1; omega) b2 ha2 hb2 (fun q hq => by
        have := h q hq
        rw [vp_mul hq h0 ha2, vp_mul hq h0 hb2] at this
        omega)]
theorem fl_of {a b : Nat} : fl (a * a * (b * b * b)) := by
  intro p hp h
  rcases isP_mul hp h with z | z
  · have := (isP_mul hp z).elim id id
    exact Nat.dvd_mul_right_of_dvd (Nat.mul_dvd_mul this this) _
  · have : p ∣ b := (isP_mul hp z).elim (fun y => (isP_mul hp y).elim id id) id
    exact Nat.dvd_mul_left_of_dvd (Nat.dvd_mul_right_of_dvd (Nat.mul_dvd_mul this this) b) _
theorem fl_ex : ∀ n : Nat, 0 < n → fl n → ∃ a b, 0 < a ∧ 0 < b ∧ mu b ≠ 0 ∧ n = a * a * (b * b * b) := by
  intro n
  induction n using Nat.strongRecOn with
  | ind n ih =>
    intro hn h
    by_cases h1 : n = 1
    · exact ⟨1, 1, by omega, by omega, by rw [mu_1]; decide, by omega⟩
    · obtain ⟨p, hp, hpn, -⟩ := least_div (n := n) (by omega)
      have h0 : 0 < p := by have := hp.1; omega
      obtain ⟨m, h2, h3, h4⟩ := vp_split hp.1 n hn
      obtain ⟨t, ht⟩ := h p hp hpn
      have ht0 : 0 < t := Nat.pos_of_ne_zero (fun z => by subst z; omega)
      have hv : 2 ≤ vp p n := by
        rw [ht, vp_mul hp (Nat.mul_pos h0 h0) ht0, vp_mul hp h0 h0, vp_one hp.1]; omega
      have hmn : m < n := by
        have hle : p ≤ p ^ vp p n := by
          obtain ⟨j, hj⟩ : ∃ j, vp p n = j + 1 := ⟨vp p n - 1, by omega⟩
          rw [hj, Nat.pow_succ]; exact Nat.le_mul_of_pos_left p (Nat.pow_pos h0)
        have := Nat.mul_le_mul_right m (Nat.le_trans hp.1 hle)
        omega
      have hfm : fl m := by
        intro q hq hqm
        have hne : ¬ q ∣ p := fun z => h3 (isP_ne_dvd hq hp z ▸ hqm)
        have h5 := h q hq (by rw [h2]; exact Nat.dvd_mul_left_of_dvd hqm _)
        rw [h2] at h5
        have hc : Nat.Coprime q (p ^ vp p n) := (isP_copow hp (fun z => hne (isP_ne_dvd hp hq z ▸ Nat.dvd_refl p)) (vp p n)).symm
        exact (Nat.Coprime.mul_left hc hc).dvd_of_dvd_mul_left h5
      obtain ⟨a, b, ha, hb, hmu, hab⟩ := ih m hmn h4 hfm
      have hpb : ¬ p ∣ b := fun z => h3 (by rw [hab]; exact Nat.dvd_mul_left_of_dvd (Nat.dvd_mul_left_of_dvd z _) _)
      have hpar : (∃ j, vp p n = j + j) ∨ ∃ j, vp p n = j + j + 3 := by
        rcases Nat.mod_two_eq_zero_or_one (vp p n) with z | z
        · exact Or.inl ⟨vp p n / 2, by omega⟩
        · exact Or.inr ⟨(vp p n - 3) / 2, by omega⟩
      rcases hpar with ⟨j, hj⟩ | ⟨j, hj⟩
      · refine ⟨p ^ j * a, b, Nat.mul_pos (Nat.pow_pos h0) ha, hb, hmu, ?_⟩
        rw [h2, hj, Nat.pow_add, hab, Nat.mul_mul_mul_comm (p ^ j) a, Nat.mul_assoc (p ^ j * p ^ j)]
      · refine ⟨p ^ j * a, p * b, Nat.mul_pos (Nat.pow_pos h0) ha, Nat.mul_pos h0 hb, ?_, ?_⟩
        · rw [mu_p hp hb hpb]; omega
        · have e3 : p ^ 3 = p * p * p := by rw [Nat.pow_succ, Nat.pow_succ, Nat.pow_succ, Nat.pow_zero, Nat.one_mul]
          rw [h2, hj, Nat.pow_add, Nat.pow_add, hab, e3, Nat.mul_mul_mul_comm (p ^ j) a, Nat.mul_mul_mul_comm p b, Nat.mul_mul_mul_comm (p * p) (b * b), Nat.mul_mul_mul_comm (p ^ j * p ^ j) (a * a)]
theorem fl_one {a b c d : Nat} (ha : 0 < a) (hb : 0 < b) (hc : 0 < c) (hd : 0 < d) (mb : mu b ≠ 0) (md : mu d ≠ 0) (h : a * a * (b * b * b) = c * c * (d * d * d)) : a = c ∧ b = d := by
  have key : ∀ p, isP p → vp p a = vp p c ∧ vp p b = vp p d := by
    intro p hp
    have e := congrArg (vp p) h
    rw [vp_mul hp (Nat.mul_pos ha ha) (Nat.mul_pos (Nat.mul_pos hb hb) hb), vp_mul hp (Nat.mul_pos hc hc) (Nat.mul_pos (Nat.mul_pos hd hd) hd), vp_mul hp ha ha, vp_mul hp hc hc, vp_mul hp (Nat.mul_pos hb hb) hb, vp_mul hp hb hb, vp_mul hp (Nat.mul_pos hd hd) hd, vp_mul hp hd hd] at e
    have h1 := mu_vp hp hb mb
    have h2 := mu_vp hp hd md
    omega
  exact ⟨vp_ext a c ha hc (fun p hp => (key p hp).1), vp_ext b d hb hd (fun p hp => (key p hp).2)⟩
theorem full_sum {x B : Nat} (g c : Nat → Int) (R : Nat → Nat) (hB : B ≤ x) (hB2 : ∀ b, B < b → x < b * b * b) (hR : ∀ b, 1 ≤ b → b ≤ B → R b * R b ≤ x / (b * b * b) ∧ x / (b * b * b) < (R b + 1) * (R b + 1)) (hc1 : ∀ n, 1 ≤ n → n ≤ x → fl n → c n = g n) (hc0 : ∀ n, 1 ≤ n → n ≤ x → ¬ fl n → c n = 0) : sg (fun b => if mu b ≠ 0 then sg (fun a => g (a * a * (b * b * b))) (R b) else 0) B = sg c x := by
  have e1 : sg (fun b => if mu b ≠ 0 then sg (fun a => g (a * a * (b * b * b))) (R b) else 0) B = sg (fun b => sg (fun a => sg (fun n => if mu b ≠ 0 ∧ n = a * a * (b * b * b) then g n else 0) x) x) x := by
    rw [sg_more (f := fun b => sg (fun a => sg (fun n => if mu b ≠ 0 ∧ n = a * a * (b * b * b) then g n else 0) x) x) hB (fun b h1 h2 => sg_zero (fun a h3 _ => sg_zero (fun n _ h4 => if_neg (fun z => by
      have := hB2 b h1
      have := Nat.le_mul_of_pos_left (b * b * b) (Nat.mul_pos h3 h3)
      omega))))]
    refine sg_cong (fun b h1 h2 => ?_)
    by_cases m : mu b ≠ 0
    · rw [if_pos m]
      have hb3 : 0 < b * b * b := Nat.mul_pos (Nat.mul_pos h1 h1) h1
      have hr := hR b h1 h2
      have hRx : R b ≤ x := by
        rcases Nat.eq_zero_or_pos (R b) with z | z
        · omega
        · exact Nat.le_trans (Nat.le_mul_of_pos_left (R b) z) (Nat.le_trans hr.1 (Nat.div_le_self _ _))
      rw [sg_more (n := R b) hRx (fun a h3 _ => sg_zero (fun n _ h4 => if_neg (fun z => by
        have h5 : (R b + 1) * (R b + 1) ≤ a * a := Nat.mul_le_mul h3 h3
        have h6 := (Nat.div_lt_iff_lt_mul hb3).mp (Nat.lt_of_lt_of_le hr.2 h5)
        omega)))]
      refine sg_cong (fun a h3 h4 => ?_)
      have h5 : a * a * (b * b * b) ≤ x := (Nat.le_div_iff_mul_le hb3).mp (Nat.le_trans (Nat.mul_le_mul h4 h4) hr.1)
      rw [sg_single (a := a * a * (b * b * b)) (Nat.mul_pos (Nat.mul_pos h3 h3) hb3) h5 (fun n _ _ hne => if_neg (fun z => hne z.2)), if_pos ⟨m, rfl⟩]
    · rw [if_neg m]
      exact (sg_zero (fun a _ _ => sg_zero (fun n _ _ => if_neg (fun z => m z.1)))).symm
  have e2 : sg (fun b => sg (fun a => sg (fun n => if mu b ≠ 0 ∧ n = a * a * (b * b * b) then g n else 0) x) x) x = sg (fun n => sg (fun b => sg (fun a => if mu b ≠ 0 ∧ n = a * a * (b * b * b) then g n else 0) x) x) x := by
    have e3 : sg (fun b => sg (fun a => sg (fun n => if mu b ≠ 0 ∧ n = a * a * (b * b * b) then g n else 0) x) x) x = sg (fun b => sg (fun n => sg (fun a => if mu b ≠ 0 ∧ n = a * a * (b * b * b) then g n else 0) x) x) x :=
      sg_cong (fun b _ _ => sg_swap (fun a n => if mu b ≠ 0 ∧ n = a * a * (b * b * b) then g n else 0) x x)
    rw [e3]
    exact sg_swap (fun b n => sg (fun a => if mu b ≠ 0 ∧ n = a * a * (b * b * b) then g n else 0) x) x x
  rw [e1, e2]
  refine sg_cong (fun n h1 h2 => ?_)
  by_cases f : fl n
  · obtain ⟨a, b, ha, hb, hmu, hab⟩ := fl_ex n h1 f
    have hb3 : 0 < b * b * b := Nat.mul_pos (Nat.mul_pos hb hb) hb
    have hax : a ≤ x := Nat.le_trans (Nat.le_mul_of_pos_left a ha) (Nat.le_trans (Nat.le_mul_of_pos_right (a * a) hb3) (by omega))
    have hbx : b ≤ x := Nat.le_trans (Nat.le_mul_of_pos_left b (Nat.mul_pos hb hb)) (Nat.le_trans (Nat.le_mul_of_pos_left (b * b * b) (Nat.mul_pos ha ha)) (by omega))
    have s1 : ∀ k, 1 ≤ k → k ≤ x → k ≠ b → sg (fun a => if mu k ≠ 0 ∧ n = a * a * (k * k * k) then g n else 0) x = 0 :=
      fun k h3 _ h5 => sg_zero (fun j h6 _ => if_neg (fun z : mu k ≠ 0 ∧ n = j * j * (k * k * k) => h5 (fl_one h6 h3 ha hb z.1 hmu (z.2.symm.trans hab)).2))
    have s2 : ∀ j, 1 ≤ j → j ≤ x → j ≠ a → (if mu b ≠ 0 ∧ n = j * j * (b * b * b) then g n else 0) = 0 :=
      fun j h6 _ h7 => if_neg (fun z : mu b ≠ 0 ∧ n = j * j * (b * b * b) => h7 (fl_one h6 hb ha hb hmu hmu (z.2.symm.trans hab)).1)
    rw [sg_single (a := b) hb hbx s1, sg_single (a := a) ha hax s2, if_pos ⟨hmu, hab⟩, hc1 n h1 h2 f]
  · rw [hc0 n h1 h2 f]
    exact sg_zero (fun b _ _ => sg_zero (fun a _ _ => if_neg (fun z => f (by rw [z.2]; exact fl_of))))
