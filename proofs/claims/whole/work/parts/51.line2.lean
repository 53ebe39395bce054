/-! LINES: words, digits, zeros at the end, turning round -/
theorem sp_coder {G : xG} {l : Launch} {n : Nat} {h : xH} {j : Nat} {Po : Int → xH → Prop} (hj : j < 8) (hp : Po 0 h) : S_J0_coder_7d493 G l j n h Po := by
  refine S_J0_coder_7d493_of (fun k hl C E => J0_coder_7d493_b0 C E j n h rfl ⟨⟨by decide, by decide⟩, fun c => absurd c (by decide), fun _ => ⟨hj, J0_coder_7d493_b14 C E 0 n h rfl ⟨⟨by decide, by decide⟩, hp⟩⟩⟩)
theorem xLen_le : ∀ j, xLen.getD j 0 ≤ 36 := by
  intro j
  rcases Nat.lt_or_ge j 8 with g | g
  · revert g; revert j; decide
  · rw [List.getD_eq_getElem?_getD, List.getElem?_eq_none (by exact g)]; decide
theorem sp_length {G : xG} {l : Launch} {n : Nat} {h : xH} {j : Nat} {Po : Int → xH → Prop} (hj : j < 8) (hp : Po (xLen.getD j 0 : Nat) h) : S_J0_length_8abf5 G l j n h Po := by
  refine S_J0_length_8abf5_of (fun k hl C E => J0_length_8abf5_b0 C E j n h rfl ⟨hj, hj, hj, sp_coder hj ?_⟩)
  have := xLen_le j
  have h2 := iSr_d (x := ((xLen.getD j 0 : Nat) : Int)) (rg_nat (by omega)) 0 (by decide)
  rw [show ((0 : Nat) : Int) = 0 from rfl] at h2
  rw [h2]
  rw [show ((xLen.getD j 0 : Nat) : Int) / 2 ^ 0 = ((xLen.getD j 0 : Nat) : Int) by simp]
  exact hp
theorem xCh_ok : ∀ j, j < 8 → ∀ i, i < xLen.getD j 0 → iA (xCh j i) 255 = xCh j i ∧ 0 ≤ xCh j i ∧ xCh j i ≤ 127 := by decide
theorem sp_charAt {G : xG} {l : Launch} {n : Nat} {h : xH} {j i : Nat} {Po : Int → xH → Prop} (hj : j < 8) (hi : i < xLen.getD j 0) (hp : Po (xCh j i) h) : S_J0_charAt_5068e G l j i n h Po := by
  have hc := xCh_ok j hj i hi
  have hle := xLen_le j
  refine S_J0_charAt_5068e_of (fun k hl C E => J0_charAt_5068e_b0 C E j i n h rfl ⟨hj, ?_⟩)
  refine S_J0_isLatin1_aae02_of (fun k2 hl2 C2 E2 => J0_isLatin1_aae02_b0 C2 E2 j n h rfl ⟨⟨by decide, by decide⟩, fun c => absurd c (by decide), fun _ => ⟨hj, rg0, fun c => absurd rfl c, fun _ => J0_isLatin1_aae02_b18 C2 E2 1 n h rfl ⟨Or.inr rfl, ⟨by decide, by decide⟩, fun c => absurd c (by decide), fun _ => ⟨hj, ?_⟩⟩⟩⟩)
  refine S_J1_charAt_3b067_of (fun k3 hl3 C3 E3 => J1_charAt_3b067_b0 C3 E3 j i n h rfl ⟨hj, ?_⟩)
  refine S_J0_checkIndex_df160_of (fun k4 hl4 C4 E4 => J0_checkIndex_df160_b0 C4 E4 i _ n h rfl (fun f => ?_))
  refine S_J3_checkIndex_8e157_of (fun k5 hl5 C5 E5 => J3_checkIndex_8e157_b0 C5 E5 i _ f n h rfl ⟨rg_nat (by omega), fun c => by omega, fun _ => ⟨⟨rg_nat (by omega), rg_nat (by omega)⟩, fun _ => ?_, fun c => by omega⟩⟩)
  rw [Int.toNat_natCast, hc.1]
  exact ⟨⟨hj, by omega, by omega, by omega⟩, ⟨by omega, by omega⟩, ⟨by omega, by omega⟩, ⟨by omega, by omega⟩, hp⟩
/-- the codes of the string j -/
def lStr (j : Nat) : List Int := (List.range (xLen.getD j 0)).map (xCh j)
theorem sp_appStr {G : xG} {l : Launch} {n : Nat} {h : xH} {a c m j : Nat} {L : List Int} {Po : xH → Prop} (t : isL n h a c m L) (hj : j < 8) (hr : L.length + xLen.getD j 0 ≤ m) (hp : ∀ h', hE (sL a c) h h' → isL n h' a c m (L ++ lStr j) → Po h') : S_X0_append_ G l a j n h Po := by
  refine S_X0_append__of (fun k hl C E => X0_append__b0 C E a j n h rfl ?_)
  have hle := xLen_le j
  suffices K : ∀ (u i : Nat) (h1 : xH), i + u = xLen.getD j 0 → hE (sL a c) h h1 → isL n h1 a c m (L ++ (List.range i).map (xCh j)) → X0_append__w2 G k a j i n h1 from K _ 0 h (Nat.zero_add _) hE.rf (by rw [List.range_zero, List.map_nil, List.append_nil]; exact t)
  intro u
  induction u with
  | zero =>
    intro i h1 hi he t1
    refine X0_append__b2 C E a j i n h1 rfl ⟨hj, sp_length hj ⟨⟨rg_nat (by omega), rg_nat (by omega)⟩, fun _ => hp h1 he ?_, fun g => by omega⟩⟩
    rw [show i = xLen.getD j 0 by omega] at t1
    exact t1
  | succ u ih =>
    intro i h1 hi he t1
    have hc := xCh_ok j hj i (by omega)
    refine X0_append__b2 C E a j i n h1 rfl ⟨hj, sp_length hj ⟨⟨rg_nat (by omega), rg_nat (by omega)⟩, fun g => by omega, fun _ => ⟨hj, sp_charAt hj (by omega) ⟨t1.ok, sp_app t1 ?_ ⟨by omega, by omega⟩ (fun h2 e2 t2 => ?_)⟩⟩⟩⟩
    · rw [List.length_append, List.length_map, List.length_range]; omega
    · refine ih (i + 1) h2 (by omega) (he.tr e2) ?_
      rw [List.range_succ, List.map_append, ← List.append_assoc]
      exact t2
/-- the code of a digit -/
def dg (d : Int) : Int := if 10 ≤ d then 87 + d else 48 + d
/-- the last u digits of x in the base b, the last first -/
def lds (x b : Int) : Nat → List Int
  | 0 => []
  | u + 1 => dg (x % b) :: lds (x / b) b u
theorem lds_length (x b : Int) (u : Nat) : (lds x b u).length = u := by
  induction u generalizing x with
  | zero => rfl
  | succ u ih => show (lds (x / b) b u).length + 1 = _; rw [ih]
theorem sp_lastDigits {G : xG} {l : Launch} {n : Nat} {h : xH} {a c m u : Nat} {x b : Int} {L : List Int} {Po : xH → Prop} (t : isL n h a c m L) (hx0 : 0 ≤ x) (hx1 : x ≤ 2147483647) (hb0 : 2 ≤ b) (hb1 : b ≤ 16) (hr : L.length + u ≤ m) (hp : ∀ h', hE (sL a c) h h' → isL n h' a c m (L ++ lds x b u) → Po h') : S_X0_appendLastDigits G l a x b u n h Po := by
  refine S_X0_appendLastDigits_of (fun k hl C E => X0_appendLastDigits_b0 C E a x b u n h rfl ⟨⟨⟨by omega, by omega⟩, ⟨by decide, by decide⟩⟩, fun _ => ?_, fun c => by omega⟩)
  have ln := t.ln
  suffices K : ∀ (v i : Nat) (x : Int) (L : List Int) (h1 : xH), i + v = u → 0 ≤ x → x ≤ 2147483647 → L.length + v ≤ m → hE (sL a c) h h1 → isL n h1 a c m L → (∀ h', hE (sL a c) h h' → isL n h' a c m (L ++ lds x b v) → Po h') → X0_appendLastDigits_w12 G k a b u x i n h1 from K u 0 x L h (by omega) hx0 hx1 hr hE.rf t hp
  intro v
  induction v with
  | zero =>
    intro i x L h1 hi y0 y1 hr he t1 hp
    refine X0_appendLastDigits_b12 C E a b u x i n h1 rfl ⟨⟨rg_nat (by omega), rg_nat (by omega)⟩, fun _ => hp h1 he ?_, fun g => by omega⟩
    rw [show lds x b 0 = [] from rfl, List.append_nil]; exact t1
  | succ v ih =>
    intro i x L h1 hi y0 y1 hr he t1 hp
    have r0 := Int.emod_nonneg x (show b ≠ 0 by omega)
    have r1 := Int.emod_lt_of_pos x (show 0 < b by omega)
    have q0 : 0 ≤ x / b := Int.ediv_nonneg y0 (by omega)
    have q1 : x / b ≤ x := Int.ediv_le_self _ y0
    have hm : rg x ∧ rg b ∧ b ≠ 0 := ⟨⟨by omega, y1⟩, ⟨by omega, by omega⟩, by omega⟩
    have w48 : X0_appendLastDigits_w48 G k a b u x i (dg (x % b)) a n h1 := by
      have hdg : -128 ≤ dg (x % b) ∧ dg (x % b) ≤ 127 := by unfold dg; split <;> omega
      refine X0_appendLastDigits_b48 C E a b u x i _ a n h1 rfl ⟨t1.ok, sp_app t1 (by omega) hdg (fun h2 e2 t2 => ⟨hm, ?_⟩)⟩
      rw [Int.tdiv_eq_ediv_of_nonneg y0]
      refine ih (i + 1) (x / b) _ h2 (by omega) q0 (by omega) (by rw [List.length_append]; show L.length + 1 + v ≤ m; omega) (he.tr e2) t2 (fun h' e' t' => hp h' e' ?_)
      rw [List.append_assoc] at t'
      exact t'
    refine X0_appendLastDigits_b12 C E a b u x i n h1 rfl ⟨⟨rg_nat (by omega), rg_nat (by omega)⟩, fun g => by omega, fun _ => ⟨hm, ⟨?_, ⟨by decide, by decide⟩⟩, fun g => ?_, fun g => ?_⟩⟩
    · rw [Int.tmod_eq_emod_of_nonneg y0]; exact ⟨by omega, by omega⟩
    · rw [Int.tmod_eq_emod_of_nonneg y0] at g ⊢
      unfold dg at w48
      rw [if_pos g] at w48
      rw [show 97 + x % b - 10 = 87 + x % b by omega]; exact w48
    · rw [Int.tmod_eq_emod_of_nonneg y0] at g ⊢
      unfold dg at w48
      rw [if_neg g] at w48
      exact w48
theorem isL.cut {n : Nat} {h h' : xH} {a c m : Nat} {L : List Int} {x : Int} (t : isL n h a c m (L ++ [x])) (e : h' = hS h a 1 (L.length : Int)) : isL n h' a c m L := by
  obtain ⟨t1, ⟨t2, t3, t4⟩, ⟨t5, t6, t7⟩, t8, t9⟩ := t
  subst e
  rw [List.length_append] at t7 t8
  refine ⟨t1, ⟨by rw [hS_k]; exact t2, by rw [hS_g, if_neg (by omega)]; exact t3, by rw [hS_g, if_pos ⟨rfl, rfl⟩]⟩, ⟨by rw [hS_k]; exact t5, by rw [hS_l]; exact t6, by omega, t7.2⟩, fun i hi => ?_, fun y hy => t9 y (List.mem_append_left _ hy)⟩
  rw [hS_g, if_neg (by omega), t8 i (by omega), getD_app, if_pos hi]
theorem ex_snoc {L : List Int} (h : 0 < L.length) : ∃ M x, L = M ++ [x] := ⟨L.dropLast, L.getLast (fun e => by rw [e] at h; exact absurd h (by decide)), (List.dropLast_concat_getLast _).symm⟩
/-- the line without its zeros at the end, down to s codes -/
theorem sp_dropZeros {G : xG} {l : Launch} {n : Nat} {h : xH} {a c m s : Nat} {L : List Int} {Po : xH → Prop} (t : isL n h a c m L) (hs : s ≤ L.length) (hp : ∀ h' M j, hE (sL a c) h h' → isL n h' a c m M → L = M ++ List.replicate j 48 → s ≤ M.length → (M.length = s ∨ ∃ N x, M = N ++ [x] ∧ x ≠ 48) → Po h') : S_X0_dropZerosAtEnd G l a s n h Po := by
  refine S_X0_dropZerosAtEnd_of (fun k hl C E => ?_)
  have ln := t.ln
  suffices K : ∀ (u : Nat) (M : List Int) (j : Nat) (h1 : xH), M.length = s + u → hE (sL a c) h h1 → isL n h1 a c m M → L = M ++ List.replicate j 48 → X0_dropZerosAtEnd_w0 G k a s n h1 from K (L.length - s) L 0 h (by omega) hE.rf t (by rw [List.replicate_zero, List.append_nil])
  intro u
  induction u with
  | zero =>
    intro M j h1 hu he t1 hj
    have ln1 := t1.ln
    refine X0_dropZerosAtEnd_b0 C E a s n h1 rfl ⟨t1.ok, ⟨t1.rgs, rg_nat (by omega)⟩, fun _ => X0_dropZerosAtEnd_b36 C E n h1 rfl (hp h1 M j he t1 hj (by omega) (Or.inl hu)), fun g => by rw [t1.sz] at g; omega⟩
  | succ u ih =>
    intro M j h1 hu he t1 hj
    have ln1 := t1.ln
    obtain ⟨N, x, rfl⟩ := ex_snoc (show 0 < M.length by omega)
    have hlen : (N ++ [x]).length = N.length + 1 := by rw [List.length_append]; rfl
    refine X0_dropZerosAtEnd_b0 C E a s n h1 rfl ⟨t1.ok, ⟨t1.rgs, rg_nat (by omega)⟩, fun g => by rw [t1.sz] at g; omega, fun _ => ⟨t1.ok, t1.ok, ?_⟩⟩
    rw [t1.sz, hlen, show ((N.length + 1 : Nat) : Int) - 1 = (N.length : Int) by omega]
    refine sp_codeAt t1 (rg_nat (by omega)) ?_
    rw [cd_at (by omega), getD_app, if_neg (by omega), if_pos rfl]
    have hx := t1.2.2.2.2 x (List.mem_append_right _ (List.mem_singleton.mpr rfl))
    refine ⟨⟨⟨by omega, by omega⟩, ⟨by decide, by decide⟩⟩, fun g => X0_dropZerosAtEnd_b36 C E n h1 rfl (hp h1 _ j he t1 hj (by omega) (Or.inr ⟨N, x, rfl, g⟩)), fun g => ⟨t1.ok, t1.ok, fun h2 e2 => ?_⟩⟩
    rw [t1.sz, hlen, show ((N.length + 1 : Nat) : Int) - 1 = (N.length : Int) by omega] at e2
    refine ih N (j + 1) h2 (by omega) (he.tr (hE.put' e2 (Or.inl rfl))) (t1.cut e2) ?_
    rw [hj, g, List.append_assoc]; rfl
