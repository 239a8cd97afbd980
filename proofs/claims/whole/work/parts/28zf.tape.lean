/-! PURE: the tape cut into tokens -/
def bl (x : Int32) : Prop := x = 10 ∨ x = 32
def ltr (x : Int32) : Prop := ¬ x < 97 ∧ ¬ 122 < x
def dgt (x : Int32) : Prop := ¬ x < 48 ∧ ¬ 57 < x
theorem ltr_n {x : Int32} (h : ltr x) : ∃ c, c < 26 ∧ x = nI (97 + c) := by
  obtain ⟨n, h1, h2, rfl⟩ := ge_of (k := 97) (by omega) h.1
  refine ⟨n - 97, ?_, by congr 1; omega⟩
  rcases Nat.lt_or_ge 122 n with w | w
  · exact absurd (nI_lt (a := 122) w h2) h.2
  · omega
theorem dgt_n {x : Int32} (h : dgt x) : ∃ c, c < 10 ∧ x = nI (48 + c) := by
  obtain ⟨n, h1, h2, rfl⟩ := ge_of (k := 48) (by omega) h.1
  refine ⟨n - 48, ?_, by congr 1; omega⟩
  rcases Nat.lt_or_ge 57 n with w | w
  · exact absurd (nI_lt (a := 57) w h2) h.2
  · omega
theorem ltr_bl {x : Int32} (h : ltr x) : ¬ bl x := by
  rintro (rfl | rfl)
  · exact h.1 (by decide)
  · exact h.1 (by decide)
theorem dgt_bl {x : Int32} (h : dgt x) : ¬ bl x := by
  rintro (rfl | rfl)
  · exact h.1 (by decide)
  · exact h.1 (by decide)
theorem ltr_dgt {x : Int32} (h : ltr x) : ¬ dgt x := by
  intro w
  obtain ⟨c, hc, rfl⟩ := ltr_n h
  exact w.2 (nI_lt (a := 57) (by omega) (by omega))
theorem ltr_32 : ¬ ltr 32 := fun h => h.1 (by decide)
theorem ltr_0 : ¬ ltr 0 := fun h => h.1 (by decide)
theorem dgt_0 : ¬ dgt 0 := fun h => h.1 (by decide)
theorem bl_0 : ¬ bl 0 := fun h => by rcases h with e | e <;> exact absurd e (by decide)
def wl (w : Nat) : Nat := [5, 7, 4, 3, 2, 5, 4, 5, 5].getD w 0
def wo (w : Nat) : Nat := [0, 6, 14, 19, 23, 26, 32, 37, 43, 49].getD w 0
theorem wl_c : ∀ w, w < 9 → ∀ i, i < 7 → (i < wl w → ¬ gCh 1 (7 * w + i) = 32 ∧ gCh 5 (wo w + i) = gCh 1 (7 * w + i)) ∧ (¬ i < wl w → gCh 1 (7 * w + i) = 32) := by decide +kernel
theorem wl_o : ∀ w, w < 9 → gCh 5 (wo w + wl w) = 32 ∧ wo w + wl w + 1 = wo (w + 1) ∧ wl w ≤ 7 ∧ 1 ≤ wl w ∧ wo w + wl w < 49 := by decide +kernel
/-- the bytes from s to e spell the word w -/
def sp (b : Nat → Int32) (s e w : Nat) : Prop := e = s + wl w ∧ ∀ i, i < wl w → b (s + i) = gCh 1 (7 * w + i)
def uW (b : Nat → Int32) (s : Nat) : Nat → Nat
  | 0 => 0
  | k + 1 => 32 * uW b s k + ((b (s + k)).toNatClampNeg - 96)
def nmC (b : Nat → Int32) (s e : Nat) : Nat := uW b s (e - s) * 32 ^ (6 - (e - s))
def dC (b : Nat → Int32) (s : Nat) : Nat → Nat
  | 0 => 0
  | k + 1 => if dC b s k * 10 + ((b (s + k)).toNatClampNeg - 48) < 100000000 then dC b s k * 10 + ((b (s + k)).toNatClampNeg - 48) else 100000000
theorem dC_b (b : Nat → Int32) (s : Nat) : ∀ k, dC b s k ≤ 100000000
  | 0 => Nat.zero_le _
  | k + 1 => by rw [dC]; split <;> omega
theorem uW_b {b : Nat → Int32} {s : Nat} : ∀ {k : Nat}, (∀ i, i < k → ltr (b (s + i))) → uW b s k < 32 ^ k
  | 0, _ => by show 0 < 1; omega
  | k + 1, h => by
    have h1 := uW_b (b := b) (s := s) (k := k) (fun i hi => h i (by omega))
    obtain ⟨c, hc, e⟩ := ltr_n (h k (by omega))
    rw [uW, e, nI_clamp (by omega), Nat.pow_succ]; omega
/-- a word's kind -/
def wdR (b : Nat → Int32) (s e : Nat) (so co : Int32) : Prop := (∃ w, w < 9 ∧ sp b s e w ∧ (∀ v, v < w → ¬ sp b s e v) ∧ so = nI (10 + w)) ∨ ((∀ v, v < 9 → ¬ sp b s e v) ∧ ((e - s ≤ 6 ∧ so = 4 ∧ co = nI (nmC b s e)) ∨ (6 < e - s ∧ so = 5)))
/-- one token: blanks from a to s, the token from s to e -/
def tkK (b : Nat → Int32) (n s e : Nat) (so co : Int32) : Prop :=
  (ltr (b s) ∧ s < e ∧ (∀ i, s ≤ i → i < e → ltr (b i)) ∧ (e < n → ¬ ltr (b e)) ∧ wdR b s e so co) ∨
  (dgt (b s) ∧ s < e ∧ (∀ i, s ≤ i → i < e → dgt (b i)) ∧ (e < n → ¬ dgt (b e)) ∧ so = 2 ∧ co = nI (dC b s (e - s))) ∨
  (b s = 59 ∧ e = s + 1 ∧ so = 1) ∨
  (b s = 45 ∧ s + 1 < n ∧ dgt (b (s + 1)) ∧ s + 1 < e ∧ (∀ i, s + 1 ≤ i → i < e → dgt (b i)) ∧ (e < n → ¬ dgt (b e)) ∧ so = 3 ∧ co = - nI (dC b (s + 1) (e - (s + 1)))) ∨
  (¬ ltr (b s) ∧ ¬ dgt (b s) ∧ ¬ b s = 59 ∧ (b s = 45 → s + 1 < n → ¬ dgt (b (s + 1))) ∧ e = s + 1 ∧ so = 5)
def tkR (b : Nat → Int32) (n a s e : Nat) (so co : Int32) : Prop :=
  a ≤ s ∧ (∀ i, a ≤ i → i < s → bl (b i)) ∧ ((s = n ∧ e = n ∧ so = 0) ∨ (s < n ∧ ¬ bl (b s) ∧ e ≤ n ∧ tkK b n s e so co))
def hr (b : Nat → Int32) (n a : Nat) : Int32 := if a < n then b a else 0
theorem s_hereC {fed tk : Int32} {bytes b : Nat → Int32} {n a : Nat} {Q : Int32 → Prop} (hn : n ≤ 700) (ha : a < 2 ^ 31) (hb : ∀ i, i < n → bytes i = b i) (h : Q (hr b n a)) : wX9_here fed (nI n) tk (nI a) bytes Q := by
  unfold wX9_here
  refine pk_le n a (fun z => ?_) (fun z => ⟨vp_in_nI (by omega) (by omega), ?_⟩)
  · rw [hr, if_neg (by omega)] at h; exact h
  · rw [nI_clamp (by omega), hb a z]; rw [hr, if_pos z] at h; exact h
theorem s_isBlankC {fed tk : Int32} {bytes b : Nat → Int32} {n a : Nat} {Q : Int32 → Prop} (hn : n ≤ 700) (ha : a < 2 ^ 31) (hb : ∀ i, i < n → bytes i = b i) (h1 : bl (hr b n a) → Q 1) (h0 : ¬ bl (hr b n a) → Q 0) : wX9_isBlank fed (nI n) tk (nI a) bytes Q := by
  unfold wX9_isBlank
  exact ⟨_, s_hereC hn ha hb (br_c (fun e => h1 (Or.inl e)) (fun e => ⟨_, s_hereC hn ha hb ⟨fun e2 => h0 (fun w => w.elim e e2), fun e2 => h1 (Or.inr e2)⟩, fun _ h => h⟩)), fun _ h => h⟩
theorem s_isLetterC {fed tk : Int32} {bytes b : Nat → Int32} {n a : Nat} {Q : Int32 → Prop} (hn : n ≤ 700) (ha : a < 2 ^ 31) (hb : ∀ i, i < n → bytes i = b i) (h1 : ltr (hr b n a) → Q 1) (h0 : ¬ ltr (hr b n a) → Q 0) : wX9_isLetter fed (nI n) tk (nI a) bytes Q := by
  unfold wX9_isLetter
  exact ⟨_, s_hereC hn ha hb (br_c (fun e => h0 (fun w => w.1 e)) (fun e => ⟨_, s_hereC hn ha hb (br_c (fun e2 => h0 (fun w => w.2 e2)) (fun e2 => h1 ⟨e, e2⟩)), fun _ h => h⟩)), fun _ h => h⟩
theorem s_isDigitC {fed tk : Int32} {bytes b : Nat → Int32} {n a : Nat} {Q : Int32 → Prop} (hn : n ≤ 700) (ha : a < 2 ^ 31) (hb : ∀ i, i < n → bytes i = b i) (h1 : dgt (hr b n a) → Q 1) (h0 : ¬ dgt (hr b n a) → Q 0) : wX9_isDigit fed (nI n) tk (nI a) bytes Q := by
  unfold wX9_isDigit
  exact ⟨_, s_hereC hn ha hb (br_c (fun e => h0 (fun w => w.1 e)) (fun e => ⟨_, s_hereC hn ha hb (br_c (fun e2 => h0 (fun w => w.2 e2)) (fun e2 => h1 ⟨e, e2⟩)), fun _ h => h⟩)), fun _ h => h⟩
theorem hr_lt {b : Nat → Int32} {n a : Nat} (h : a < n) : hr b n a = b a := if_pos h
theorem hr_ge {b : Nat → Int32} {n a : Nat} (h : ¬ a < n) : hr b n a = 0 := if_neg h
theorem hr_dgt {b : Nat → Int32} {n a : Nat} (h : dgt (hr b n a)) : a < n ∧ dgt (b a) := by
  by_cases z : a < n
  · rw [hr_lt z] at h; exact ⟨z, h⟩
  · rw [hr_ge z] at h; exact absurd h dgt_0
theorem hr_ltr {b : Nat → Int32} {n a : Nat} (h : ltr (hr b n a)) : a < n ∧ ltr (b a) := by
  by_cases z : a < n
  · rw [hr_lt z] at h; exact ⟨z, h⟩
  · rw [hr_ge z] at h; exact absurd h ltr_0
theorem dC_step {b : Nat → Int32} {a e d : Nat} (hae : a ≤ e) (hd : d < 10) (hbe : b e = nI (48 + d)) : (if ((nI (dC b a (e - a)) * 10) + b e) - 48 < 100000000 then ((nI (dC b a (e - a)) * 10) + b e) - 48 else 100000000) = nI (dC b a (e + 1 - a)) := by
  have h1 := dC_b b a (e - a)
  rw [show e + 1 - a = e - a + 1 by omega, dC, show a + (e - a) = e by omega, hbe, nI_clamp (by omega), show 48 + d - 48 = d by omega, show (10 : Int32) = nI 10 from rfl, pk_mul, nI_add, show (48 : Int32) = nI 48 from rfl, pk_sub (by omega), show dC b a (e - a) * 10 + (48 + d) - 48 = dC b a (e - a) * 10 + d by omega, show (100000000 : Int32) = nI 100000000 from rfl]
  by_cases c : dC b a (e - a) * 10 + d < 100000000
  · rw [if_pos c, if_pos (nI_lt c (by omega))]
  · rw [if_neg c, if_neg (nI_nlt (by omega) (by omega))]
theorem s_cutDigitsC {fed tk : Int32} {bytes b : Nat → Int32} {n a : Nat} {Q : Int32 → Int32 → Prop} (hn : n ≤ 700) (ha : a ≤ n) (hb : ∀ i, i < n → bytes i = b i) (h : ∀ e, a ≤ e → e ≤ n → (∀ i, a ≤ i → i < e → dgt (b i)) → (e < n → ¬ dgt (b e)) → Q (nI (dC b a (e - a))) (nI e)) : wX9_cutDigits fed (nI n) tk (nI a) bytes Q := by
  unfold wX9_cutDigits
  refine ⟨fun y x => ∃ e : Nat, y = nI e ∧ a ≤ e ∧ e ≤ n ∧ (∀ i, a ≤ i → i < e → dgt (b i)) ∧ x = nI (dC b a (e - a)), fun y _ => 701 - y.toNatClampNeg, ⟨a, rfl, Nat.le_refl _, ha, fun i p q => by omega, by rw [Nat.sub_self]; rfl⟩, ?_⟩
  rintro y x ⟨e, rfl, h1, h2, h3, rfl⟩
  refine pk_le n e (fun z => h e h1 h2 h3 (fun w => by omega)) (fun z => ⟨_, s_isDigitC hn (by omega) hb (fun w => c1 ?_) (fun w => c0 (h e h1 h2 h3 (fun _ => by rw [hr_lt z] at w; exact w))), fun _ h => h⟩)
  refine ⟨_, s_hereC hn (by omega) hb ?_, fun _ h => h⟩
  rw [hr_lt z] at w ⊢
  obtain ⟨d, hd, hbe⟩ := dgt_n w
  rw [dC_step h1 hd hbe, nI_1]
  rintro m rfl y2 rfl
  refine ⟨⟨e + 1, rfl, by omega, by omega, fun i p q => ?_, rfl⟩, ms_up (by omega) (by omega)⟩
  by_cases ei : i = e
  · rw [ei]; exact w
  · exact h3 i p (by omega)
theorem s_putC {fed le at_ a1 a2 a3 : Int32} {so st co : Nat → Int32} {T : Nat} {Q : Int32 → (Nat → Int32) → (Nat → Int32) → (Nat → Int32) → Prop} (hT : T < 700) (h : Q (nI (T + 1)) (upd so T a1) (upd st T a2) (upd co T a3)) : wX9_put fed le (nI T) at_ so st co a1 a2 a3 Q := by
  unfold wX9_put
  refine pk_le 700 T (fun z => by omega) (fun _ => ⟨vp_in_nI (by omega) (by omega), ?_⟩)
  rw [nI_clamp (by omega), nI_1]
  rintro s1 rfl s2 rfl s3 rfl t1 rfl
  exact h
theorem sp_7 {b : Nat → Int32} {s e w : Nat} (hw : w < 9) (hse : s ≤ e) (hl : ∀ i, s ≤ i → i < e → ltr (b i)) : sp b s e w ↔ (e - s ≤ 7 ∧ ∀ i, i < 7 → (if s + i < e then b (s + i) else 32) = gCh 1 (7 * w + i)) := by
  obtain ⟨o1, o2, o3, o4, o5⟩ := wl_o w hw
  constructor
  · rintro ⟨rfl, h2⟩
    refine ⟨by omega, fun i hi => ?_⟩
    by_cases c : i < wl w
    · rw [if_pos (by omega), h2 i c]
    · rw [if_neg (by omega)]; exact ((wl_c w hw i hi).2 c).symm
  · rintro ⟨h1, h2⟩
    have e1 : e - s = wl w := by
      rcases Nat.lt_or_ge (e - s) (wl w) with c | c
      · have := h2 (e - s) (by omega)
        rw [if_neg (by omega)] at this
        exact absurd this.symm ((wl_c w hw (e - s) (by omega)).1 c).1
      · rcases Nat.lt_or_ge (wl w) (e - s) with c2 | c2
        · have := h2 (wl w) (by omega)
          rw [if_pos (by omega), (wl_c w hw (wl w) (by omega)).2 (by omega)] at this
          have hx := hl (s + wl w) (by omega) (by omega)
          rw [this] at hx
          exact absurd hx ltr_32
        · omega
    refine ⟨by omega, fun i hi => ?_⟩
    have := h2 i (by omega)
    rw [if_pos (by omega)] at this
    exact this
theorem s_spellsC {fed le tk : Int32} {bytes b : Nat → Int32} {n s e w : Nat} {Q : Int32 → Prop} (hw : w < 9) (hn : n ≤ 700) (hse : s ≤ e) (hen : e ≤ n) (hb : ∀ i, i < n → bytes i = b i) (hl : ∀ i, s ≤ i → i < e → ltr (b i)) (h1 : sp b s e w → Q 1) (h0 : ¬ sp b s e w → Q 0) : wX9_spells fed le tk (nI e) bytes (nI (7 * w)) (nI s) Q := by
  unfold wX9_spells
  rw [pk_sub hse]
  rw [sp_7 hw hse hl] at h1 h0
  refine pk_lt 7 (e - s) (fun z => h0 (fun q => by have := q.1; omega)) (fun z => ?_)
  rw [show nI (7 * w) + 7 = nI (7 * w + 7) from nI_add _ 7]
  refine pk_le (7 * w + 7) 63 (fun _ => ?_) (fun q => by omega)
  refine ⟨fun y => ∃ k : Nat, y = nI k ∧ k ≤ 7 ∧ ∀ i, i < k → (if s + i < e then b (s + i) else 32) = gCh 1 (7 * w + i), fun y => 8 - y.toNatClampNeg, ⟨0, rfl, by omega, fun i hi => by omega⟩, ?_⟩
  rintro y ⟨k, rfl, hk, hi⟩
  refine pk_le 7 k (fun q => h1 ⟨z, fun i a => hi i (by omega)⟩) (fun q => ?_)
  rw [nI_add, nI_add, nI_1, nI_clamp (show 7 * w + k < 2 ^ 31 by omega), nI_clamp (show s + k < 2 ^ 31 by omega)]
  have up : ∀ x : Int32, (if s + k < e then b (s + k) else 32) = x → x = gCh 1 (7 * w + k) → ∀ i, i < k + 1 → (if s + i < e then b (s + i) else 32) = gCh 1 (7 * w + i) := by
    intro x e1 e2 i a
    by_cases c : i = k
    · rw [c, e1, e2]
    · exact hi i (by omega)
  refine pk_le e (s + k) (fun r => ⟨vp_in_nI (by omega) (by omega), ?_⟩) (fun r => ⟨vp_in_nI (by omega) (by omega), ?_⟩)
  · have ex : (if s + k < e then b (s + k) else 32) = (32 : Int32) := if_neg (by omega)
    exact br_c (fun c => ⟨⟨k + 1, rfl, by omega, up _ ex c.symm⟩, ms_up (by omega) (by omega)⟩) (fun c => h0 (fun y => c (by rw [← y.2 k (by omega), ex])))
  · have ex : (if s + k < e then b (s + k) else 32) = b (s + k) := if_pos r
    rw [hb (s + k) (by omega)]
    rintro x rfl
    exact ⟨vp_in_nI (by omega) (by omega), br_c (fun c => ⟨⟨k + 1, rfl, by omega, up _ ex c.symm⟩, ms_up (by omega) (by omega)⟩) (fun c => h0 (fun y => c (by rw [← y.2 k (by omega), ex])))⟩
theorem s_langC {fed le tk : Int32} {bytes b : Nat → Int32} {n s e : Nat} {Q : Int32 → Prop} (hn : n ≤ 700) (hse : s ≤ e) (hen : e ≤ n) (hb : ∀ i, i < n → bytes i = b i) (hl : ∀ i, s ≤ i → i < e → ltr (b i)) (h1 : ∀ w, w < 9 → sp b s e w → (∀ v, v < w → ¬ sp b s e v) → Q (nI (10 + w))) (h0 : (∀ v, v < 9 → ¬ sp b s e v) → Q (-1)) : wX9_languageWord fed le tk (nI e) bytes (nI s) Q := by
  unfold wX9_languageWord
  refine ⟨fun y => ∃ w : Nat, y = nI (10 + w) ∧ w ≤ 9 ∧ ∀ v, v < w → ¬ sp b s e v, fun y => 20 - y.toNatClampNeg, ⟨0, rfl, by omega, fun v hv => by omega⟩, ?_⟩
  rintro y ⟨w, rfl, hw, hno⟩
  refine pk_lt 18 (10 + w) (fun z => h0 (fun v hv => hno v (by omega))) (fun z => ?_)
  rw [show (nI (10 + w) - 10) * 7 = nI (7 * w) from by rw [show (10 : Int32) = nI 10 from rfl, pk_sub (by omega), show (7 : Int32) = nI 7 from rfl, pk_mul]; congr 1; omega, nI_1]
  refine ⟨_, s_spellsC (by omega) hn hse hen hb hl (fun q => c1 (h1 w (by omega) q hno)) (fun q => c0 ?_), fun _ h => h⟩
  refine ⟨⟨w + 1, rfl, by omega, fun v hv => ?_⟩, ms_up (by omega) (by omega)⟩
  by_cases c : v = w
  · rw [c]; exact q
  · exact hno v (by omega)
theorem uW_or {b : Nat → Int32} {s m c : Nat} (hm : m < 6) (hc : c < 26) (hbe : b (s + m) = nI (97 + c)) (hl : ∀ i, i < m → ltr (b (s + i))) : nI (uW b s m * 32 ^ (6 - m)) ||| (((b (s + m) - 97) + 1) <<< ((5 * (5 - nI m)) &&& 31)) = nI (uW b s (m + 1) * 32 ^ (6 - (m + 1))) := by
  have hu := uW_b (k := m) hl
  have e1 : (b (s + m) - 97) + 1 = nI (c + 1) := by rw [hbe, show (97 : Int32) = nI 97 from rfl, pk_sub (by omega), nI_1]; congr 1; omega
  have e2 : (5 : Int32) * (5 - nI m) = nI (5 * (5 - m)) := by rw [show (5 : Int32) - nI m = nI (5 - m) from pk_sub (a := 5) (by omega)]; exact pk_mul 5 (5 - m)
  have e3 : (2 : Nat) ^ (5 * (5 - m)) = 32 ^ (5 - m) := Nat.pow_mul 2 5 (5 - m)
  have e4 : (2 : Nat) ^ (5 * (6 - m)) = 32 ^ (6 - m) := Nat.pow_mul 2 5 (6 - m)
  have e5 : (32 : Nat) ^ (6 - m) = 32 ^ (5 - m) * 32 := by rw [show 6 - m = 5 - m + 1 by omega]; rfl
  have e6 : (32 : Nat) ^ (5 - m) ≤ 32 ^ 5 := Nat.pow_le_pow_right (by omega) (by omega)
  have h5 : (32 : Nat) ^ 5 = 33554432 := by decide
  have hlt : (c + 1) * 32 ^ (5 - m) < 32 * 32 ^ (5 - m) := Nat.mul_lt_mul_of_pos_right (by omega) (Nat.pow_pos (by omega))
  rw [e1, e2, pk_shlN _ (5 * (5 - m)) (z_sh _ (by omega)) (by rw [e3]; omega), e3, Nat.mul_comm (uW b s m), ← e4, fa_or_sum (k := 5 * (6 - m)) (uW b s m) (by rw [e4, e5]; omega), e4, e5, uW, hbe, nI_clamp (by omega), show 97 + c - 96 = c + 1 by omega, show 6 - (m + 1) = 5 - m by omega]
  congr 1
  rw [Nat.add_mul (32 * uW b s m) (c + 1), Nat.mul_comm (32 ^ (5 - m) * 32), Nat.mul_comm (32 ^ (5 - m)) 32, ← Nat.mul_assoc, Nat.mul_comm (uW b s m) 32]
theorem s_cutWordC {fed : Int32} {bytes b sorts starts contents : Nat → Int32} {n s T : Nat} {Q : Int32 → Int32 → (Nat → Int32) → (Nat → Int32) → (Nat → Int32) → Prop} (hn : n ≤ 700) (hs : s < n) (hT : T < 700) (hb : ∀ i, i < n → bytes i = b i) (hls : ltr (b s)) (h : ∀ e so co, s < e → e ≤ n → (∀ i, s ≤ i → i < e → ltr (b i)) → (e < n → ¬ ltr (b e)) → wdR b s e so co → Q (nI (T + 1)) (nI e) (upd sorts T so) (upd starts T (nI s)) (upd contents T co)) : wX9_cutWord fed (nI n) (nI T) (nI s) bytes sorts starts contents (nI s) Q := by
  unfold wX9_cutWord
  refine ⟨fun y x => ∃ e : Nat, y = nI e ∧ s ≤ e ∧ e ≤ n ∧ (∀ i, s ≤ i → i < e → ltr (b i)) ∧ (e - s ≤ 6 → x = nI (uW b s (e - s) * 32 ^ (6 - (e - s)))), fun y _ => 701 - y.toNatClampNeg, ⟨s, rfl, Nat.le_refl _, by omega, fun i p q => by omega, fun _ => by rw [Nat.sub_self]; show 0 = nI (0 * _); rw [Nat.zero_mul]; rfl⟩, ?_⟩
  rintro y x ⟨e, rfl, h1, h2, h3, h4⟩
  refine ⟨e < n → ¬ ltr (b e), ?_, fun hJ => ?_⟩
  · refine pk_le n e (fun z w => by omega) (fun z => ⟨_, s_isLetterC hn (by omega) hb (fun w => c1 ?_) (fun w => c0 (fun _ => by rw [hr_lt z] at w; exact w)), fun _ h => h⟩)
    rw [hr_lt z] at w
    have h3' : ∀ i, s ≤ i → i < e + 1 → ltr (b i) := fun i p q => by
      by_cases c : i = e
      · rw [c]; exact w
      · exact h3 i p (by omega)
    rw [pk_sub h1, nI_1]
    refine pk_le 6 (e - s) (fun q => ?_) (fun q => ?_)
    · rintro y2 rfl
      exact ⟨⟨e + 1, rfl, by omega, by omega, h3', fun r => by omega⟩, ms_up (by omega) (by omega)⟩
    · refine ⟨_, s_hereC hn (by omega) hb ?_, fun _ h => h⟩
      rw [hr_lt z]
      obtain ⟨c, hc, hbe⟩ := ltr_n w
      rintro x2 rfl y2 rfl
      refine ⟨⟨e + 1, rfl, by omega, by omega, h3', fun _ => ?_⟩, ms_up (by omega) (by omega)⟩
      have hse : s + (e - s) = e := by omega
      have := uW_or (b := b) (s := s) (m := e - s) (c := c) q hc (by rw [hse]; exact hbe) (fun i hi => h3 _ (by omega) (by omega))
      rw [hse] at this
      rw [h4 (by omega), this, show e + 1 - s = e - s + 1 by omega]
  · have hse : s < e := by
      rcases Nat.lt_or_ge s e with c | c
      · exact c
      · have : e = s := by omega
        subst this
        exact absurd hls (hJ hs)
    rw [pk_sub h1]
    refine ⟨_, s_langC hn h1 h2 hb h3 (fun w hw q1 q2 => br_f (nI_m1 (by omega)) ⟨_, s_putC hT (h e _ 0 hse h2 h3 hJ (Or.inl ⟨w, hw, q1, q2, rfl⟩)), fun _ _ _ _ h => h⟩) (fun q => br_t rfl (pk_lt 6 (e - s) (fun r => ⟨_, s_putC hT (h e 5 _ hse h2 h3 hJ (Or.inr ⟨q, Or.inr ⟨r, rfl⟩⟩)), fun _ _ _ _ h => h⟩) (fun r => ⟨_, s_putC hT (h e 4 _ hse h2 h3 hJ (Or.inr ⟨q, Or.inl ⟨r, rfl, ?_⟩⟩)), fun _ _ _ _ h => h⟩))), fun _ h => h⟩
    exact h4 r
theorem s_cutSignC {fed : Int32} {bytes b sorts starts contents : Nat → Int32} {n s T : Nat} {Q : Int32 → Int32 → (Nat → Int32) → (Nat → Int32) → (Nat → Int32) → Prop} (hn : n ≤ 700) (hs : s < n) (hT : T < 700) (hb : ∀ i, i < n → bytes i = b i) (hnl : ¬ ltr (b s)) (hnd : ¬ dgt (b s)) (h : ∀ e so co, s < e → e ≤ n → tkK b n s e so co → Q (nI (T + 1)) (nI e) (upd sorts T so) (upd starts T (nI s)) (upd contents T co)) : wX9_cutSign fed (nI n) (nI T) (nI s) bytes sorts starts contents (nI s) Q := by
  unfold wX9_cutSign
  refine ⟨_, s_hereC hn (by omega) hb ?_, fun _ h => h⟩
  rw [hr_lt hs, nI_1]
  rintro a2 rfl
  refine ⟨fun e1 => ⟨fun e2 => ⟨_, s_putC hT (h (s + 1) 5 0 (by omega) (by omega) ?_), fun _ _ _ _ h => h⟩, fun e2 => ⟨_, s_isDigitC hn (by omega) hb (fun w => c1 ?_) (fun w => c0 ⟨_, s_putC hT (h (s + 1) 5 0 (by omega) (by omega) ?_), fun _ _ _ _ h => h⟩), fun _ h => h⟩⟩, fun e1 => ⟨_, s_putC hT (h (s + 1) 1 0 (by omega) (by omega) (Or.inr (Or.inr (Or.inl ⟨e1, rfl, rfl⟩)))), fun _ _ _ _ h => h⟩⟩
  · exact Or.inr (Or.inr (Or.inr (Or.inr ⟨hnl, hnd, e1, fun q => absurd q e2, rfl, rfl⟩)))
  · obtain ⟨w1, w2⟩ := hr_dgt w
    refine ⟨_, s_cutDigitsC hn (by omega) hb (fun e q1 q2 q3 q4 => ⟨_, s_putC hT (h e 3 _ ?_ q2 (Or.inr (Or.inr (Or.inr (Or.inl ⟨e2, w1, w2, ?_, q3, q4, rfl, rfl⟩))))), fun _ _ _ _ h => h⟩), fun _ _ h => h⟩
    · omega
    · rcases Nat.lt_or_ge (s + 1) e with c | c
      · exact c
      · have : e = s + 1 := by omega
        subst this
        exact absurd w2 (q4 w1)
  · exact Or.inr (Or.inr (Or.inr (Or.inr ⟨hnl, hnd, e1, fun _ q => by rw [hr_lt q] at w; exact w, rfl, rfl⟩)))
/-- the tokens of the first n bytes -/
def tsR (b : Nat → Int32) (n T : Nat) (so st co : Nat → Int32) (pos s : Nat → Nat) : Prop := pos 0 = 0 ∧ ∀ t, t < T → st t = nI (s t) ∧ s t < n ∧ pos t ≤ n ∧ tkR b n (pos t) (s t) (pos (t + 1)) (so t) (co t)
theorem ts_up {b : Nat → Int32} {n T a e : Nat} {so st co : Nat → Int32} {pos s : Nat → Nat} {s1 c1 : Int32} (h : tsR b n T so st co pos s) (hp : pos T ≤ a) (hbl : ∀ i, pos T ≤ i → i < a → bl (b i)) (ha : a < n) (hnb : ¬ bl (b a)) (he : e ≤ n) (hk : tkK b n a e s1 c1) : tsR b n (T + 1) (upd so T s1) (upd st T (nI a)) (upd co T c1) (va_up pos (T + 1) e) (va_up s T a) := by
  refine ⟨by rw [va_up_ne _ _ (by omega)]; exact h.1, fun t ht => ?_⟩
  by_cases c : t = T
  · subst c
    rw [pk_us, pk_us, pk_us, va_up_self, va_up_self, va_up_ne _ _ (by omega)]
    exact ⟨rfl, ha, by omega, hp, hbl, Or.inr ⟨ha, hnb, he, hk⟩⟩
  · rw [pk_un c, pk_un c, pk_un c, va_up_ne _ _ c, va_up_ne _ _ (show t ≠ T + 1 by omega), va_up_ne _ _ (show t + 1 ≠ T + 1 by omega)]
    exact h.2 t (by omega)
theorem s_cutC {le tk at_ : Int32} {bytes b sorts starts contents : Nat → Int32} {fd n : Nat} {Q : Int32 → Int32 → Int32 → Int32 → (Nat → Int32) → (Nat → Int32) → (Nat → Int32) → Prop} (hfd : fd ≤ 700) (hn : n ≤ fd) (hb : ∀ i, i < n → bytes i = b i) (h : ∀ T so st co pos s, T ≤ n → tsR b n T so st co pos s → pos T ≤ n → (∀ i, pos T ≤ i → i < n → bl (b i)) → Q 0 (nI n) (nI T) (nI n) so st co) : wX9_cut (nI fd) le tk at_ bytes sorts starts contents (nI n) Q := by
  unfold wX9_cut
  rintro m1 rfl
  have e1 : (if nI fd < nI n then nI fd else nI n) = nI n := by rw [if_neg (nI_nlt hn (by omega))]
  rw [e1]
  have e2 : (if (0 : Int32) < nI n then nI n else 0) = nI n := by
    by_cases c : (0 : Int32) < nI n
    · rw [if_pos c]
    · rw [if_neg c]
      rcases Nat.eq_zero_or_pos n with z | z
      · rw [z]; rfl
      · exact absurd (nI_lt (a := 0) z (by omega)) c
  rintro m2 rfl
  rw [e2]
  refine ⟨fun co so st tk y x => ∃ (T a i : Nat) (pos s : Nat → Nat), tk = nI T ∧ y = nI a ∧ x = nI i ∧ T ≤ i ∧ i ≤ a ∧ a ≤ n ∧ tsR b n T so st co pos s ∧ pos T ≤ a ∧ ∀ j, pos T ≤ j → j < a → bl (b j), fun _ _ _ _ _ x => 701 - x.toNatClampNeg, ⟨0, 0, 0, fun _ => 0, fun _ => 0, rfl, rfl, rfl, by omega, by omega, by omega, ⟨rfl, fun t ht => by omega⟩, Nat.le_refl 0, fun j p q => by omega⟩, ?_⟩
  rintro co so st tk y x ⟨T, a, i, pos, s, rfl, rfl, rfl, hTi, hia, han, hts, hpa, hbl⟩
  refine pk_le 700 i (fun z => ?_) (fun z => pk_le n a (fun w => ?_) (fun w => ?_))
  · obtain rfl : a = n := by omega
    exact h T so st co pos s (by omega) hts hpa hbl
  · obtain rfl : a = n := by omega
    exact h T so st co pos s (by omega) hts hpa hbl
  · have fin : ∀ e s1 c1, a < e → e ≤ n → ¬ bl (b a) → tkK b n a e s1 c1 → (∃ (T' a' i' : Nat) (pos s : Nat → Nat), nI (T + 1) = nI T' ∧ nI e = nI a' ∧ nI i + 1 = nI i' ∧ T' ≤ i' ∧ i' ≤ a' ∧ a' ≤ n ∧ tsR b n T' (upd so T s1) (upd st T (nI a)) (upd co T c1) pos s ∧ pos T' ≤ a' ∧ ∀ j, pos T' ≤ j → j < a' → bl (b j)) ∧ 701 - (nI i + 1).toNatClampNeg < 701 - (nI i).toNatClampNeg := by
      intro e s1 c1 q1 q2 q3 q4
      rw [nI_1]
      refine ⟨⟨T + 1, e, i + 1, _, _, rfl, rfl, rfl, by omega, by omega, q2, ts_up hts hpa hbl w q3 q2 q4, ?_, fun j p q => ?_⟩, ms_up (by omega) (by omega)⟩
      · rw [va_up_self]; exact Nat.le_refl _
      · rw [va_up_self] at p; omega
    refine ⟨_, s_isBlankC (by omega) (by omega) hb (fun q => c1 ?_) (fun q => c0 ⟨_, s_isLetterC (by omega) (by omega) hb (fun r => c1 ?_) (fun r => c0 ⟨_, s_isDigitC (by omega) (by omega) hb (fun v => c1 ?_) (fun v => c0 ?_), fun _ h => h⟩), fun _ h => h⟩), fun _ h => h⟩
    · rw [hr_lt w] at q
      rw [nI_1, nI_1]
      rintro y2 rfl
      refine ⟨⟨T, a + 1, i + 1, pos, s, rfl, rfl, rfl, by omega, by omega, by omega, hts, by omega, fun j p1 p2 => ?_⟩, ms_up (by omega) (by omega)⟩
      by_cases c : j = a
      · rw [c]; exact q
      · exact hbl j p1 (by omega)
    · rw [hr_lt w] at q r
      exact ⟨_, s_cutWordC (by omega) w (by omega) hb r (fun e s1 c1 q1 q2 q3 q4 q5 => fin e s1 c1 q1 q2 q (Or.inl ⟨r, q1, q3, q4, q5⟩)), fun _ _ _ _ _ h => h⟩
    · rw [hr_lt w] at q v
      refine ⟨_, s_cutDigitsC (by omega) (by omega) hb (fun e q1 q2 q3 q4 => ?_), fun _ _ h => h⟩
      have hae : a < e := by
        rcases Nat.lt_or_ge a e with c | c
        · exact c
        · have : e = a := by omega
          subst this
          exact absurd v (q4 w)
      exact ⟨_, s_putC (by omega) (fin e 2 _ hae q2 q (Or.inr (Or.inl ⟨v, hae, q3, q4, rfl, rfl⟩))), fun _ _ _ _ h => h⟩
    · rw [hr_lt w] at q r v
      exact ⟨_, s_cutSignC (by omega) w (by omega) hb r v (fun e s1 c1 q1 q2 q3 => fin e s1 c1 q1 q2 q q3), fun _ _ _ _ _ h => h⟩
