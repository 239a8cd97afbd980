/-! PURE: what holds between two calls -/
def plR (Bd M Sd F : Nat) (b m sd f : Int32) (nm K A B D C nd N number name so fi se de co sb s : Nat → Int32) : Prop :=
  (1 ≤ Bd ∧ Bd ≤ 200000 ∧ 2 ≤ M ∧ M ≤ 1000003 ∧ Sd ≤ 99999 ∧ 6 ≤ F ∧ F ≤ 12) ∧ (b = nI Bd ∧ m = nI M ∧ sd = nI Sd ∧ f = nI F) ∧ wfp F K A B ∧ ndp F K A B nd ∧ pmR F K A B C N so fi se sb s ∧ (s 0 = nI Bd ∧ s 1 = nI M ∧ number 2 = nI Sd ∧ number 3 = nI (F - 6)) ∧ ∀ i, i < F → name i = nm i ∧ de i = D i ∧ co i = C i
def tpR (fd : Nat) (fed : Int32) (bytes : Nat → Int32) (taped : Int32) (tape : Nat → Int32) : Prop :=
  fd ≤ 700 ∧ fed = nI fd ∧ taped = nI fd ∧ ∀ i, i < fd → bytes i = tape i ∧ ∃ c, c < 256 ∧ tape i = nI c
def entIdx (sz tp i : Nat) : Nat := (tp + 20 - sz + i) % 20
def undoE (kd c a b : Int32) (S : Nat → Int32) : Nat → Int32 := fun j =>
  if kd = 0 then (if j = 0 then a else S j)
  else if kd = 1 then (if j = 1 then a else S j)
  else (if j = 2 + (c.toNatClampNeg - 72) then a else if j = 2 + (c.toNatClampNeg - 72) + 1 then b else S j)
def snap (sz : Nat) (kept s : Nat → Int32) (i : Nat) : Nat → Int32 := if i < sz then fun j => kept (74 * i + j) else s
def entOK (kd c a : Int32) : Prop := (kd = 0 ∧ ∃ n, 1 ≤ n ∧ n ≤ 200000 ∧ a = nI n) ∨ (kd = 1 ∧ ∃ m, 2 ≤ m ∧ m ≤ 1000003 ∧ a = nI m) ∨ (kd = 2 ∧ ∃ d, 72 ≤ d ∧ d + 1 < 144 ∧ c = nI d)
def chR (sz tp : Nat) (size top : Int32) (kinds cells ones others : Nat → Int32) (und : Int32) (kept s : Nat → Int32) : Prop :=
  sz ≤ 20 ∧ tp < 20 ∧ size = nI sz ∧ top = nI tp ∧ und = nI sz ∧ ∀ i, i < sz → entOK (kinds (entIdx sz tp i)) (cells (entIdx sz tp i)) (ones (entIdx sz tp i)) ∧ ∀ j, j < 74 → kept (74 * i + j) = undoE (kinds (entIdx sz tp i)) (cells (entIdx sz tp i)) (ones (entIdx sz tp i)) (others (entIdx sz tp i)) (snap sz kept s (i + 1)) j
def imR (F : Nat) (ik ib im : Int32) (inum : Nat → Int32) (hi : Int32) (kept : Nat → Int32) : Prop :=
  ik = hi ∧ (ik = 0 ∨ (ik = 1 ∧ ∃ b m, 1 ≤ b ∧ b ≤ 200000 ∧ 2 ≤ m ∧ m ≤ 1000003 ∧ ib = nI b ∧ kept 1480 = nI b ∧ im = nI m ∧ kept 1481 = nI m ∧ ∀ j, j < 12 * (F - 6) → kept (1482 + j) = inum (72 + j)))
/-- the pool of rows and the sieve -/
def roR (T F L : Nat) (K A B C N : Nat → Int32) (turn : Int32) (rf rm rl ru : Nat → Int32) (rn : Nat → Nat) (rv : Nat → Nat → Int32) (least cells P : Nat → Int32) : Prop :=
  turn = nI T ∧ poolE T ru rn ∧ poolV F K A B C N rf rm rl rn rv ∧ (2 ≤ L ∧ L ≤ 200001 ∧ svOK L least) ∧ pw cells P
def moR (F : Nat) (K A B C N : Nat → Int32) (M Bd : Nat) (isS ro ar : Int32) (marks row : Nat → Int32) : Prop :=
  ¬ isS = 0 ∧ mkOK marks ∧ rcOK F K A B C N M Bd ro ar row
def posR (L i T : Nat) (x4 : Int32) (kc ks Ls : Nat) (rn : Nat → Nat) : Prop :=
  x4 = nI (6 * i) ∧ 6 * i ≤ L ∧ L ≤ 3072 ∧ kc ≤ 73 + 20 * i ∧ ks ≤ 218343 + 6 * i + sS Ls + s4 rn ∧ T ≤ 16 * i
def invL (L : Nat) (rf : Nat → Int32) (rm : Nat → Int32) (rl : Nat → Int32) (ru : Nat → Int32) (rn : Nat → Nat) (rv : Nat → Nat → Int32) (now_bound : Int32) (now_modulus : Int32) (now_seed : Int32) (now_functions : Int32) (now_names : Nat → Int32) (now_kinds : Nat → Int32) (now_firsts : Nat → Int32) (now_seconds : Nat → Int32) (now_degrees : Nat → Int32) (now_colours : Nat → Int32) (now_needs : Nat → Int32) (now_numbers : Nat → Int32) (reader_lines : Int32) (reader_faulty : Int32) (reader_place : Int32) (reader_token : Int32) (reader_toldOnce : Int32) (reader_tape_fed : Int32) (reader_tape_length : Int32) (reader_tape_tokens : Int32) (reader_tape_at : Int32) (reader_tape_bytes : Nat → Int32) (reader_tape_sorts : Nat → Int32) (reader_tape_starts : Nat → Int32) (reader_tape_contents : Nat → Int32) (reader_plan_bound : Int32) (reader_plan_modulus : Int32) (reader_plan_seed : Int32) (reader_plan_functions : Int32) (reader_plan_names : Nat → Int32) (reader_plan_kinds : Nat → Int32) (reader_plan_firsts : Nat → Int32) (reader_plan_seconds : Nat → Int32) (reader_plan_degrees : Nat → Int32) (reader_plan_colours : Nat → Int32) (reader_plan_needs : Nat → Int32) (reader_plan_numbers : Nat → Int32) (changes_size : Int32) (changes_top : Int32) (changes_kinds : Nat → Int32) (changes_cells : Nat → Int32) (changes_ones : Nat → Int32) (changes_others : Nat → Int32) (image_kept : Int32) (image_bound : Int32) (image_modulus : Int32) (image_numbers : Nat → Int32) (rows_turn : Int32) (rows_sieve_least : Nat → Int32) (rows_powers_ofPrime : Nat → Int32) (rows_powers_cells : Nat → Int32) (couples_x : Int32) (couples_root : Int32) (couples_small : Nat → Int64) (couples_great : Nat → Int64) (n_rows_sieve_least : Nat) (M_thrown : Int32) (M_taped : Int32) (M_lines : Int32) (M_size : Int32) (M_atF : Int32) (M_place : Int32) (M_sort : Int32) (M_value : Int32) (M_fault : Int32) (M_faultPlace : Int32) (M_lastFault : Int32) (M_lastPlace : Int32) (M_undoable : Int32) (M_hasImage : Int32) (M_rowOf : Int32) (M_areSums : Int32) (M_isSieved : Int32) (M_blocks : Int32) (M_drawn : Int32) (M_tape : Nat → Int32) (M_number : Nat → Int32) (M_isTold : Nat → Int32) (M_name : Nat → Int32) (M_sortOf : Nat → Int32) (M_first : Nat → Int32) (M_second : Nat → Int32) (M_degree : Nat → Int32) (M_colours : Nat → Int32) (M_signBy : Nat → Int32) (M_own : Nat → Int32) (M_sF : Nat → Int32) (M_kept : Nat → Int32) (M_power : Nat → Int64) (M_table : Nat → Int64) (M_marks : Nat → Int32) (M_row : Nat → Int32) (M_lastOf : Nat → Int32) (M_inBlock : Nat → Int64) (M_atQuotient : Nat → Int64) (M_small : Nat → Int64) (out : Nat → Int64) (x4 : Int32) (kc : Nat) (ks : Nat) : Prop :=
  ∃ i Bd M Sd F fd T cx cr sz tp : Nat, posR L i T x4 kc ks n_rows_sieve_least rn ∧ plR Bd M Sd F now_bound now_modulus now_seed now_functions now_names now_kinds now_firsts now_seconds now_degrees now_colours now_needs now_numbers M_number M_name M_sortOf M_first M_second M_degree M_colours M_signBy M_sF ∧ tpR fd reader_tape_fed reader_tape_bytes M_taped M_tape ∧ (reader_faulty = M_lastFault ∧ reader_place = M_lastPlace) ∧ chR sz tp changes_size changes_top changes_kinds changes_cells changes_ones changes_others M_undoable M_kept M_sF ∧ imR F image_kept image_bound image_modulus image_numbers M_hasImage M_kept ∧ roR T F n_rows_sieve_least now_kinds now_firsts now_seconds now_colours now_numbers rows_turn rf rm rl ru rn rv rows_sieve_least rows_powers_cells rows_powers_ofPrime ∧ (couples_x = nI cx ∧ couples_root = nI cr ∧ cpOK cx cr couples_great couples_small) ∧ moR F now_kinds now_firsts now_seconds now_colours now_numbers M Bd M_isSieved M_rowOf M_areSums M_marks M_row
def meaL (L : Nat) (rf : Nat → Int32) (rm : Nat → Int32) (rl : Nat → Int32) (ru : Nat → Int32) (rn : Nat → Nat) (rv : Nat → Nat → Int32) (now_bound : Int32) (now_modulus : Int32) (now_seed : Int32) (now_functions : Int32) (now_names : Nat → Int32) (now_kinds : Nat → Int32) (now_firsts : Nat → Int32) (now_seconds : Nat → Int32) (now_degrees : Nat → Int32) (now_colours : Nat → Int32) (now_needs : Nat → Int32) (now_numbers : Nat → Int32) (reader_lines : Int32) (reader_faulty : Int32) (reader_place : Int32) (reader_token : Int32) (reader_toldOnce : Int32) (reader_tape_fed : Int32) (reader_tape_length : Int32) (reader_tape_tokens : Int32) (reader_tape_at : Int32) (reader_tape_bytes : Nat → Int32) (reader_tape_sorts : Nat → Int32) (reader_tape_starts : Nat → Int32) (reader_tape_contents : Nat → Int32) (reader_plan_bound : Int32) (reader_plan_modulus : Int32) (reader_plan_seed : Int32) (reader_plan_functions : Int32) (reader_plan_names : Nat → Int32) (reader_plan_kinds : Nat → Int32) (reader_plan_firsts : Nat → Int32) (reader_plan_seconds : Nat → Int32) (reader_plan_degrees : Nat → Int32) (reader_plan_colours : Nat → Int32) (reader_plan_needs : Nat → Int32) (reader_plan_numbers : Nat → Int32) (changes_size : Int32) (changes_top : Int32) (changes_kinds : Nat → Int32) (changes_cells : Nat → Int32) (changes_ones : Nat → Int32) (changes_others : Nat → Int32) (image_kept : Int32) (image_bound : Int32) (image_modulus : Int32) (image_numbers : Nat → Int32) (rows_turn : Int32) (rows_sieve_least : Nat → Int32) (rows_powers_ofPrime : Nat → Int32) (rows_powers_cells : Nat → Int32) (couples_x : Int32) (couples_root : Int32) (couples_small : Nat → Int64) (couples_great : Nat → Int64) (n_rows_sieve_least : Nat) (M_thrown : Int32) (M_taped : Int32) (M_lines : Int32) (M_size : Int32) (M_atF : Int32) (M_place : Int32) (M_sort : Int32) (M_value : Int32) (M_fault : Int32) (M_faultPlace : Int32) (M_lastFault : Int32) (M_lastPlace : Int32) (M_undoable : Int32) (M_hasImage : Int32) (M_rowOf : Int32) (M_areSums : Int32) (M_isSieved : Int32) (M_blocks : Int32) (M_drawn : Int32) (M_tape : Nat → Int32) (M_number : Nat → Int32) (M_isTold : Nat → Int32) (M_name : Nat → Int32) (M_sortOf : Nat → Int32) (M_first : Nat → Int32) (M_second : Nat → Int32) (M_degree : Nat → Int32) (M_colours : Nat → Int32) (M_signBy : Nat → Int32) (M_own : Nat → Int32) (M_sF : Nat → Int32) (M_kept : Nat → Int32) (M_power : Nat → Int64) (M_table : Nat → Int64) (M_marks : Nat → Int32) (M_row : Nat → Int32) (M_lastOf : Nat → Int32) (M_inBlock : Nat → Int64) (M_atQuotient : Nat → Int64) (M_small : Nat → Int64) (out : Nat → Int64) (x4 : Int32) (kc : Nat) (ks : Nat) : Nat := L + 6 - x4.toNatClampNeg
theorem rc_none {F M Bd : Nat} {K A B C N row : Nat → Int32} {ar : Int32} (hF : F ≤ 12) : rcOK F K A B C N M Bd (-1) ar row := fun f hf e => absurd e.symm (nI_m1 (by omega))
theorem rc_val {F M Bd g : Nat} {K A B C N row : Nat → Int32} (hF : F ≤ 12) (hg : g < F) (h0 : row 0 = 0) (h : ∀ n, 1 ≤ n → n ≤ Bd → row n = nI (vV (tv K A B C N M g) M n)) : rcOK F K A B C N M Bd (nI g) 0 row := fun f hf e => by
  obtain rfl : g = f := (nI_eq (by omega) (by omega)).mp e
  exact Or.inl ⟨rfl, h0, h⟩
theorem rc_sum {F M Bd g : Nat} {K A B C N row : Nat → Int32} (hF : F ≤ 12) (hg : g < F) (h : ∀ n, n ≤ Bd → row n = nI (sV (tv K A B C N M g) M n)) : rcOK F K A B C N M Bd (nI g) 1 row := fun f hf e => by
  obtain rfl : g = f := (nI_eq (by omega) (by omega)).mp e
  exact Or.inr ⟨rfl, h⟩
theorem pool_l {F : Nat} {K A B C N rf rm rl : Nat → Int32} {rn : Nat → Nat} {rv : Nat → Nat → Int32} (h : poolV F K A B C N rf rm rl rn rv) : ∀ k, k < 4 → rf k = -1 ∨ ∃ l, rl k = nI l ∧ l < 2 ^ 31 := fun k hk => by
  rcases h k hk with e | ⟨f, m, l, -, -, -, -, -, h6, h7⟩
  · exact Or.inl e
  · exact Or.inr ⟨l, h6, by have := h7.2.1; have := h7.2.2.1; omega⟩
theorem sS_b (L : Nat) (h : L ≤ 200001) : sS L ≤ 600001 := by rw [sS]; split <;> omega
theorem s4_b {T : Nat} {ru : Nat → Int32} {rn : Nat → Nat} (h : poolE T ru rn) : s4 rn ≤ 2400004 := by
  have h0 := sS_b _ (h 0 (by omega)).2.1
  have h1 := sS_b _ (h 1 (by omega)).2.1
  have h2 := sS_b _ (h 2 (by omega)).2.1
  have h3 := sS_b _ (h 3 (by omega)).2.1
  unfold s4; omega
theorem pos_in {L i : Nat} {x4 : Int32} (k : Nat) (hx : x4 = nI (6 * i)) (h6 : 6 * i + 6 ≤ L) (hL : L ≤ 3072) (hk : k < 6) : vp_in (x4 + nI k) L := by
  subst hx
  rw [nI_add]; exact vp_in_nI (by omega) (by omega)
theorem pos_up {L i T T2 : Nat} {x4 : Int32} {kc ks Ls Ls2 mc ms : Nat} {rn rn2 : Nat → Nat} (h : posR L i T x4 kc ks Ls rn) (h6 : 6 * i + 6 ≤ L) (hmc : mc ≤ 20) (hms : ms + (sS Ls + s4 rn) ≤ sS Ls2 + s4 rn2 + 6) (hT : T2 ≤ T + 16) : posR L (i + 1) T2 (x4 + 6) (kc + mc) (ks + ms) Ls2 rn2 := by
  obtain ⟨h1, h2, h3, h4, h5, h7⟩ := h
  refine ⟨?_, by omega, h3, by omega, by omega, by omega⟩
  rw [h1, show (6 : Int32) = nI 6 from rfl, nI_add]; congr 1
theorem pos_0 {L i T : Nat} {x4 : Int32} {kc ks Ls : Nat} {rn : Nat → Nat} (h : posR L i T x4 kc ks Ls rn) (h6 : 6 * i + 6 ≤ L) : posR L (i + 1) T (x4 + 6) kc ks Ls rn := pos_up (mc := 0) (ms := 0) h h6 (by omega) (by omega) (by omega)
theorem pos_mea {L i T : Nat} {x4 : Int32} {kc ks Ls : Nat} {rn : Nat → Nat} (h : posR L i T x4 kc ks Ls rn) (h6 : 6 * i + 6 ≤ L) : L + 6 - (x4 + 6).toNatClampNeg < L + 6 - x4.toNatClampNeg := by
  obtain ⟨h1, h2, h3, -⟩ := h
  rw [h1, show (6 : Int32) = nI 6 from rfl, nI_add, nI_clamp (by omega), nI_clamp (by omega)]; omega
theorem eqans {x y : Int32} {A : Prop} (e : x = y) (h : A) : (x = y → A) ∧ (¬ x = y → False) := ⟨fun _ => h, fun z => z e⟩
theorem eqansL {x y : Int64} {A : Prop} (e : x = y) (h : A) : (x = y → A) ∧ (¬ x = y → False) := ⟨fun _ => h, fun z => z e⟩
theorem room_ok {L i T T2 : Nat} {x4 : Int32} {kc ks Ls Ls2 mc ms : Nat} {rn rn2 : Nat → Nat} {ru2 : Nat → Int32} (h : posR L i T x4 kc ks Ls rn) (hmc : mc ≤ 20) (hms : ms + (sS Ls + s4 rn) ≤ sS Ls2 + s4 rn2) (hL : Ls2 ≤ 200001) (hp : poolE T2 ru2 rn2) : kc + mc ≤ 601024 ∧ ks + ms ≤ 7293034 := by
  obtain ⟨h1, h2, h3, h4, h5, h7⟩ := h
  have := s4_b hp
  have := sS_b Ls2 hL
  omega
theorem roomN {L i T T2 : Nat} {x4 : Int32} {kc ks Ls : Nat} {rn : Nat → Nat} {ru2 : Nat → Int32} (h : posR L i T x4 kc ks Ls rn) (hL : Ls ≤ 200001) (hp : poolE T2 ru2 rn) : kc + 0 ≤ 601024 ∧ ks + 0 ≤ 7293034 := room_ok (mc := 0) (ms := 0) h (by omega) (by omega) hL hp
theorem pos_T {L i T : Nat} {x4 : Int32} {kc ks Ls : Nat} {rn : Nat → Nat} (h : posR L i T x4 kc ks Ls rn) : T < 2 ^ 30 := by
  obtain ⟨h1, h2, h3, h4, h5, h7⟩ := h
  omega
