/-! TYPE, CLEAR AND WHAT IS ASKED OF THE NUMBER -/
theorem sp_type {G : xG} {l : Launch} {n : Nat} {h : xH} {T : List Int} {f : Nat → Int} {kd mn un pl c : Int} {Po : Int → xH → Prop} (t : isD n h kd mn un pl) (u : isU n h T f) (hc : rg c) (hy : 0 ≤ c → c ≤ 127 → T.length < 400 → ∀ h', hE (sL 2 3) h h' → isL n h' 2 3 400 (T ++ [c]) → Po ((T.length : Int) + 1) h') (hn : ¬ (0 ≤ c ∧ c ≤ 127 ∧ T.length < 400) → Po (-1) h) : S_X4_type G l 0 c n h Po := by
  refine S_X4_type_of (fun k hl C E => ?_)
  have q := u.2.2.2
  have ln := q.ln
  have w23 : ¬ (0 ≤ c ∧ c ≤ 127 ∧ T.length < 400) → X4_type_w23 G k n h := fun z => X4_type_b23 C E n h rfl (hn z)
  refine X4_type_b0 C E 0 c n h rfl ⟨hc, fun g => w23 (fun z => by omega), fun g => ⟨⟨hc, rgS (by decide) (by decide)⟩, fun g2 => w23 (fun z => by omega), fun g2 => ?_⟩⟩
  rw [t.f1]
  refine ⟨t.ok, by decide, q.ok, sp_size q ⟨⟨rg_nat (by omega), rgS (by decide) (by decide)⟩, fun g3 => ?_, fun g3 => w23 (fun z => by omega)⟩⟩
  rw [t.f1]
  refine ⟨t.ok, by decide, q.ok, sp_app q (by omega) ⟨by omega, by omega⟩ (fun h1 e1 q1 => ?_)⟩
  have t1 := t.mv e1 (by decide)
  rw [t1.f1]
  refine ⟨t1.ok, by decide, q1.ok, sp_size q1 ?_⟩
  rw [List.length_append]
  exact hy (by omega) (by omega) (by omega) h1 e1 q1
theorem sp_clear {G : xG} {l : Launch} {n : Nat} {h : xH} {T : List Int} {f : Nat → Int} {kd mn un pl : Int} {Po : xH → Prop} (t : isD n h kd mn un pl) (u : isU n h T f) (hp : ∀ h', hE (sL 2 3) h h' → isL n h' 2 3 400 [] → Po h') : S_X4_clear G l 0 n h Po := by
  refine S_X4_clear_of (fun k hl C E => X4_clear_b0 C E 0 n h rfl ?_)
  rw [t.f1]
  exact ⟨t.ok, by decide, u.2.2.2.ok, sp_empty u.2.2.2 hp⟩
theorem sp_kind {G : xG} {l : Launch} {n : Nat} {h : xH} {kd mn un pl : Int} {Po : Int → xH → Prop} (t : isD n h kd mn un pl) (hp : Po kd h) : S_X4_kind G l 0 n h Po := by
  refine S_X4_kind_of (fun k hl C E => X4_kind_b0 C E 0 n h rfl ⟨t.ok, ?_⟩)
  rw [t.f3]; exact hp
theorem sp_negative {G : xG} {l : Launch} {n : Nat} {h : xH} {kd mn un pl : Int} {Po : Int → xH → Prop} (t : isD n h kd mn un pl) (hm : mn = 0 ∨ mn = 1) (hp : Po mn h) : S_X4_negative G l 0 n h Po := by
  refine S_X4_negative_of (fun k hl C E => X4_negative_b0 C E 0 n h rfl ?_)
  rw [t.f4]; exact ⟨t.ok, hm, hp⟩
theorem sp_units {G : xG} {l : Launch} {n : Nat} {h : xH} {kd mn un pl : Int} {Po : Int → xH → Prop} (t : isD n h kd mn un pl) (hk : rg kd) (hp : Po (if kd = 2 then un else -1) h) : S_X4_units G l 0 n h Po := by
  refine S_X4_units_of (fun k hl C E => X4_units_b0 C E 0 n h rfl ?_)
  rw [t.f3, t.f5]
  refine ⟨t.ok, ⟨hk, rgS (by decide) (by decide)⟩, fun g => X4_units_b18 C E _ n h rfl ?_, fun g => ⟨t.ok, X4_units_b18 C E _ n h rfl ?_⟩⟩
  · rwa [if_neg g] at hp
  · rwa [if_pos g] at hp
theorem sp_place {G : xG} {l : Launch} {n : Nat} {h : xH} {kd mn un pl : Int} {Po : Int → xH → Prop} (t : isD n h kd mn un pl) (hk : rg kd) (hp : Po (if kd = 2 then pl else 0) h) : S_X4_place G l 0 n h Po := by
  refine S_X4_place_of (fun k hl C E => X4_place_b0 C E 0 n h rfl ?_)
  rw [t.f3, t.f6]
  refine ⟨t.ok, ⟨hk, rgS (by decide) (by decide)⟩, fun g => X4_place_b16 C E _ n h rfl ?_, fun g => ⟨t.ok, X4_place_b16 C E _ n h rfl ?_⟩⟩
  · rwa [if_neg g] at hp
  · rwa [if_pos g] at hp
theorem sp_bits {G : xG} {l : Launch} {n : Nat} {h : xH} {kd mn un pl v w b : Int} {Po : Int → xH → Prop} (t : isD n h kd mn un pl) (hk : rg kd) (hb : b = 0 ∨ b = 1) (q6 : isN n h 6 v) (q8 : isN n h 8 w) (hp : Po (if kd = 1 then (if b = 0 then bl v else bl w) else -1) h) : S_X4_bits G l 0 b n h Po := by
  refine S_X4_bits_of (fun k hl C E => X4_bits_b0 C E 0 b n h rfl ?_)
  rw [t.f3, t.f7, t.f8]
  refine ⟨t.ok, ⟨hk, rgS (by decide) (by decide)⟩, fun g => ⟨by rcases hb with z | z <;> rw [z] <;> exact rgS (by decide) (by decide), fun g2 => ⟨t.ok, by decide, q6.1.ok, sp_bitLength q6 (X4_bits_b31 C E _ n h rfl ?_)⟩, fun g2 => ⟨t.ok, by decide, q8.1.ok, sp_bitLength q8 (X4_bits_b31 C E _ n h rfl ?_)⟩⟩, fun g => ?_⟩
  · rwa [if_pos g, if_pos g2] at hp
  · rwa [if_pos g, if_neg g2] at hp
  · rwa [if_neg g] at hp
theorem sp_out {G : xG} {l : Launch} {n : Nat} {h : xH} {O : List Int} {kd mn un pl i : Int} {c m : Nat} {Po : Int → xH → Prop} (t : isD n h kd mn un pl) (q : isL n h 4 c m O) (hi : rg i) (hp : Po (cd O i) h) : S_X4_out G l 0 i n h Po := by
  refine S_X4_out_of (fun k hl C E => X4_out_b0 C E 0 i n h rfl ?_)
  rw [t.f2]
  exact ⟨t.ok, by decide, q.ok, sp_codeAt q hi hp⟩
theorem sp_back {G : xG} {l : Launch} {n : Nat} {h : xH} {T O : List Int} {f : Nat → Int} {kd mn un pl : Int} {c m : Nat} {Po : Int → xH → Prop} (t : isD n h kd mn un pl) (u : isU n h T f) (q : isL n h 4 c m O) (hc : 25 < c ∨ c = 5) (hy : O.length ≤ 400 → ∀ h', hE (sL 2 3) h h' → isL n h' 2 3 400 O → Po 1 h') (hn : ¬ O.length ≤ 400 → Po 0 h) : S_X4_back G l 0 n h Po := by
  refine S_X4_back_of (fun k hl C E => X4_back_b0 C E 0 n h rfl ?_)
  have ln := q.ln
  rw [t.f2]
  refine ⟨t.ok, by decide, q.ok, sp_size q ⟨⟨rg_nat (by omega), rgS (by decide) (by decide)⟩, fun g => ?_, fun g => ⟨Or.inl rfl, hn (by omega)⟩⟩⟩
  rw [t.f1, t.f2]
  exact ⟨t.ok, by decide, t.ok, by decide, u.2.2.2.ok, sp_copyL u.2.2.2 q ⟨by decide, by show ¬ (c = 2 ∨ c = 3); omega⟩ (by omega) (fun h1 e1 q1 => ⟨Or.inr rfl, hy (by omega) h1 e1 q1⟩)⟩
