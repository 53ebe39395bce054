theorem hE.put' {S : Nat → Prop} {h h' : xH} {b i : Nat} {z : Int} (e : h' = hS h b i z) (hb : S b) : hE S h h' := by rw [e]; exact hE.put hb
theorem rg_mod0 {z : Int} (h : rg z) : z % 4294967296 = 0 ↔ z = 0 := by
  have h1 := h.1
  have h2 := h.2
  omega
theorem sp_append {G : xG} {l : Launch} {n : Nat} {h : xH} {a s : Nat} {z : Int} {Po : xH → Prop} (t : tyN n h a) (hs : (h a).2.2 1 = (s : Int)) (hs2 : s ≤ 132) (hz : rg z) (hp : Po (if z = 0 ∨ s = 132 then h else hS (hS h (a + 1) s z) a 1 ((s : Int) + 1))) : S_X1_append G l a z n h Po := by
  refine S_X1_append_of (fun k hl C E => ?_)
  have w41 : ∀ h', Po h' → X1_append_w41 G k n h' := fun h' q => X1_append_b41 C E n h' rfl q
  have hsz : hG h a 1 = (s : Int) := hs
  have hr : rg (hG h a 1) := by rw [hsz]; exact rg_nat (by omega)
  refine X1_append_b0 C E a z n h rfl ⟨hz, fun c => w41 h ?_, fun c => ⟨t.ok, hr, fun c2 => ?_, fun c2 => ⟨t.ok, ⟨hr, rg132⟩, fun c3 => w41 h ?_, fun c3 => ⟨t.ok, t.w0, t.ok, ?_, ?_⟩⟩⟩⟩
  · rwa [if_pos (Or.inl c)] at hp
  · omega
  · rw [hsz] at c3; rwa [if_pos (Or.inr (by omega))] at hp
  · rw [hsz] at c3 ⊢; exact t.at' (by omega) (by omega)
  · intro h1 e1
    rw [hsz] at c3
    rw [t.w, hsz, Int.toNat_natCast] at e1
    have t1 : tyN n h1 a := by rw [e1]; exact t.put hz
    refine ⟨t1.ok, t1.ok, fun h2 e2 => w41 h2 ?_⟩
    have hg : hG h1 a 1 = (s : Int) := by
      show (h1 a).2.2 1 = _
      rw [e1, hS_g, if_neg (by omega)]; exact hs
    rw [hg, e1] at e2
    rw [e2]
    rwa [if_neg (by omega)] at hp
theorem sp_trim {G : xG} {l : Launch} {n : Nat} {a : Nat} {Po : xH → Prop} : ∀ (s : Nat) (h : xH), tyN n h a → (h a).2.2 1 = (s : Int) → s ≤ 132 → (∀ h', hE (fun i => i = a) h h' → isN n h' a (nv (h (a + 1)).2.2 s) → Po h') → S_X1_trim G l a n h Po := by
  intro s h t hs hs2 hp
  refine S_X1_trim_of (fun k hl C E => ?_)
  have w33 : ∀ h', Po h' → X1_trim_w33 G k n h' := fun h' q => X1_trim_b33 C E n h' rfl q
  suffices K : ∀ (s : Nat) (h : xH), tyN n h a → (h a).2.2 1 = (s : Int) → s ≤ 132 → (∀ h', hE (fun i => i = a) h h' → isN n h' a (nv (h (a + 1)).2.2 s) → Po h') → X1_trim_w0 G k a n h from K s h t hs hs2 hp
  intro s
  induction s with
  | zero =>
    intro h t hs hs2 hp
    have hsz : hG h a 1 = ((0 : Nat) : Int) := hs
    have hr : rg (hG h a 1) := by rw [hsz]; exact rg_nat (by omega)
    refine X1_trim_b0 C E a n h rfl ⟨t.ok, hr, fun c => w33 h (hp h hE.rf ⟨t, 0, by omega, hs, rfl, fun t e => by omega⟩), fun c => ?_⟩
    rw [hsz] at c; omega
  | succ s ih =>
    intro h t hs hs2 hp
    have hsz : hG h a 1 = ((s + 1 : Nat) : Int) := hs
    have hr : rg (hG h a 1) := by rw [hsz]; exact rg_nat (by omega)
    refine X1_trim_b0 C E a n h rfl ⟨t.ok, hr, fun c => ?_, fun c => ⟨t.ok, t.ok, ?_⟩⟩
    · rw [hsz] at c; omega
    · rw [hsz]
      refine sp_wordAt t hs hs2 ⟨by omega, by omega⟩ ?_
      rw [if_pos ⟨by omega, by omega⟩, show (((s + 1 : Nat) : Int) - 1).toNat = s by omega]
      have hrw : rg ((h (a + 1)).2.2 s) := t.2.2.2.2.2 s (by omega)
      refine ⟨hrw, fun c2 => w33 h (hp h hE.rf ⟨t, s + 1, hs2, hs, rfl, fun u e => ?_⟩), fun c2 => ⟨t.ok, t.ok, fun h2 e2 => ?_⟩⟩
      · have : u = s := by omega
        subst this
        exact fun q => c2 ((rg_mod0 hrw).mp q)
      · rw [hsz] at e2
        subst e2
        refine ih _ t.size ?_ (by omega) ?_
        · rw [hS_g, if_pos ⟨rfl, rfl⟩]; omega
        · intro h' e' q
          refine hp h' (hE.tr (hE.put rfl) e') ?_
          have e3 : nv (hS h a 1 (((s + 1 : Nat) : Int) - 1) (a + 1)).2.2 s = nv (h (a + 1)).2.2 (s + 1) := by
            rw [hS_ne h _ _ (by omega)]
            show _ = nv (h (a + 1)).2.2 s + _
            rw [c2]; simp
          rw [e3] at q
          exact q
theorem sp_set {G : xG} {l : Launch} {n : Nat} {h : xH} {a : Nat} {x : Int} {Po : xH → Prop} (t : tyN n h a) (hp : ∀ h', hE (sN a) h h' → isN n h' a (x % 18446744073709551616) → Po h') : S_X1_set G l a x n h Po := by
  refine S_X1_set_of (fun k hl C E => ?_)
  refine X1_set_b0 C E a x n h rfl ⟨t.ok, t.w0, t.at' (by omega) (by omega), fun h1 e1 => ?_⟩
  rw [t.w] at e1
  have t1 : tyN n h1 a := by rw [e1]; exact t.put (rg_w32 x)
  refine ⟨t1.ok, t1.w0, t1.at' (by omega) (by omega), fun h2 e2 => ?_⟩
  rw [t1.w] at e2
  have t2 : tyN n h2 a := by rw [e2]; exact t1.put (rg_w32 _)
  refine ⟨t2.ok, fun h3 e3 => ?_⟩
  have t3 : tyN n h3 a := by rw [e3]; exact t2.size
  refine ⟨t3.ok, sp_trim 2 h3 t3 (by rw [e3, hS_g, if_pos ⟨rfl, rfl⟩]; rfl) (by omega) (fun h' e' q => hp h' ?_ ?_)⟩
  · exact (hE.put' e1 (Or.inr rfl)).tr ((hE.put' e2 (Or.inr rfl)).tr ((hE.put' e3 (Or.inl rfl)).tr (e'.mono (fun i hi => Or.inl hi))))
  · have e4 : nv (h3 (a + 1)).2.2 2 = x % 18446744073709551616 := by
      show 0 + (h3 (a + 1)).2.2 0 % 4294967296 * 4294967296 ^ 0 + (h3 (a + 1)).2.2 1 % 4294967296 * 4294967296 ^ 1 = _
      have g0 : (h3 (a + 1)).2.2 0 = w32 x := by
        rw [e3, hS_g, if_neg (by omega), e2, hS_g, if_neg (by omega), e1, hS_g, if_pos ⟨rfl, rfl⟩]
      have g1 : (h3 (a + 1)).2.2 1 = w32 (lSu x 32) := by
        rw [e3, hS_g, if_neg (by omega), e2, hS_g, if_pos ⟨rfl, rfl⟩]
      rw [g0, g1, w32_emod, w32_emod, lSu_32]
      omega
    rw [e4] at q
    exact q
theorem sp_isZero {G : xG} {l : Launch} {n : Nat} {h : xH} {a : Nat} {v : Int} {Po : Int → xH → Prop} (t : isN n h a v) (hp : Po (if v = 0 then 1 else 0) h) : S_X1_isZero G l a n h Po := by
  refine S_X1_isZero_of (fun k hl C E => ?_)
  obtain ⟨ty, s, q⟩ := t
  have hv := q.val
  have hsz : hG h a 1 = (s : Int) := q.2.1
  refine X1_isZero_b0 C E a n h rfl ⟨ty.ok, by rw [hsz]; exact rg_nat (by have := q.1; omega), fun c => X1_isZero_b12 C E 0 n h rfl ⟨Or.inl rfl, ?_⟩, fun c => X1_isZero_b12 C E 1 n h rfl ⟨Or.inr rfl, ?_⟩⟩
  · rw [hsz] at c
    cases s with
    | zero => exact absurd rfl c
    | succ s =>
      have := hv.2.2.2 s rfl
      have := B_pos s
      rwa [if_neg (by omega)] at hp
  · rw [hsz] at c
    rwa [if_pos (hv.2.2.1 (by omega))] at hp
theorem sp_isOne {G : xG} {l : Launch} {n : Nat} {h : xH} {a : Nat} {v : Int} {Po : Int → xH → Prop} (t : isN n h a v) (hp : Po (if v = 1 then 1 else 0) h) : S_X1_isOne G l a n h Po := by
  refine S_X1_isOne_of (fun k hl C E => ?_)
  obtain ⟨ty, s, q⟩ := t
  have hv := q.val
  have hsz : hG h a 1 = (s : Int) := q.2.1
  have hr1 : rg (1 : Int) := ⟨by decide, by decide⟩
  have w23 : ∀ z, (z = 0 ∨ z = 1) → Po z h → X1_isOne_w23 G k z n h := fun z hz q => X1_isOne_b23 C E z n h rfl ⟨hz, q⟩
  have w22 : Po 0 h → X1_isOne_w22 G k n h := fun q => X1_isOne_b22 C E n h rfl (w23 0 (Or.inl rfl) q)
  refine X1_isOne_b0 C E a n h rfl ⟨ty.ok, ⟨by rw [hsz]; exact rg_nat (by have := q.1; omega), hr1⟩, fun c => w22 ?_, fun c => ⟨ty.ok, ty.w0, ty.at' (by omega) (by omega), ?_⟩⟩
  · rw [hsz] at c
    have : v ≠ 1 := by
      intro e
      match s, hv, c with
      | 0, hv, c => have := hv.2.2.1 rfl; omega
      | 1, hv, c => omega
      | s + 2, hv, c =>
        have := hv.2.2.2 (s + 1) rfl
        have hp := B_pos s
        rw [B_succ] at this
        omega
    rwa [if_neg this] at hp
  · rw [hsz] at c
    have hs1 : s = 1 := by omega
    subst hs1
    rw [ty.w]
    have hr : rg ((h (a + 1)).2.2 0) := ty.2.2.2.2.2 0 (by omega)
    have e : v = (h (a + 1)).2.2 0 % 4294967296 := by
      rw [← q.2.2.1]
      show 0 + (h (a + 1)).2.2 0 % 4294967296 * 4294967296 ^ 0 = _
      omega
    have hr' := hr
    obtain ⟨r1, r2⟩ := hr'
    refine ⟨⟨hr, hr1⟩, fun c2 => w22 ?_, fun c2 => w23 1 (Or.inr rfl) ?_⟩
    · have : v ≠ 1 := by
        intro e2
        have c3 : ¬ (h (a + 1)).2.2 0 = 1 := c2
        omega
      rwa [if_neg this] at hp
    · have c3 : (h (a + 1)).2.2 0 = 1 := c2
      rwa [if_pos (by omega)] at hp
theorem sp_copy {G : xG} {l : Launch} {n : Nat} {h : xH} {a b : Nat} {w : Int} {Po : xH → Prop} (ta : tyN n h a) (tb : isN n h b w) (hd : a + 1 < b ∨ b + 1 < a) (hp : ∀ h', hE (sN a) h h' → isN n h' a w → Po h') : S_X1_copy G l a b n h Po := by
  refine S_X1_copy_of (fun k hl C E => ?_)
  obtain ⟨tyb, s, q⟩ := tb
  have hs2 := q.1
  suffices K : ∀ (m i : Nat) (h1 : xH), i + m = s → hE (sN a) h h1 → tyN n h1 a → (∀ j, j < i → (h1 (a + 1)).2.2 j = (h (b + 1)).2.2 j) → X1_copy_w2 G k a b i n h1 from
    X1_copy_b0 C E a b n h rfl (K s 0 h (by omega) hE.rf ta (fun j hj => by omega))
  intro m
  induction m with
  | zero =>
    intro i h1 hi he t1 hw
    have eb := (he b).2.2 (by rintro (e | e) <;> omega)
    have hsz : hG h1 b 1 = (s : Int) := by show (h1 b).2.2 1 = _; rw [eb]; exact q.2.1
    have okb : okO n h1 b 1 := ⟨by have := tyb.1; omega, by rw [(he b).1]; exact tyb.2.1⟩
    have w35 : X1_copy_w35 G k a b n h1 := by
      refine X1_copy_b35 C E a b n h1 rfl ⟨okb, t1.ok, fun h2 e2 => hp h2 ?_ ?_⟩
      · rw [e2]; exact he.tr (hE.put (Or.inl rfl))
      · rw [hsz] at e2
        subst e2
        refine ⟨t1.size, s, hs2, by rw [hS_g, if_pos ⟨rfl, rfl⟩], ?_, fun u e => ?_⟩
        · rw [hS_ne h1 _ _ (by omega), ← q.2.2.1]
          exact nv_congr (fun j hj => by rw [hw j (by omega)])
        · rw [hS_ne h1 _ _ (by omega), hw u (by omega)]
          exact q.2.2.2 u e
    refine X1_copy_b2 C E a b i n h1 rfl ⟨okb, ⟨rg_nat (by omega), by rw [hsz]; exact rg_nat (by omega)⟩, fun c => w35, fun c => ?_⟩
    rw [hsz] at c; omega
  | succ m ih =>
    intro i h1 hi he t1 hw
    have eb := (he b).2.2 (by rintro (e | e) <;> omega)
    have eb1 := (he (b + 1)).2.2 (by rintro (e | e) <;> omega)
    have hsz : hG h1 b 1 = (s : Int) := by show (h1 b).2.2 1 = _; rw [eb]; exact q.2.1
    have tb1 : tyN n h1 b := tyb.mv (fun j hj => ⟨(he j).1, (he j).2.1, by rcases hj with rfl | rfl; exact eb; exact eb1⟩)
    refine X1_copy_b2 C E a b i n h1 rfl ⟨tb1.ok, ⟨rg_nat (by omega), by rw [hsz]; exact rg_nat (by omega)⟩, fun c => ?_, fun c => ⟨⟨rg_nat (by omega), rg132⟩, fun c2 => ?_, fun c2 => ⟨t1.ok, t1.w0, tb1.ok, tb1.w0, tb1.at' (by omega) (by omega), t1.at' (by omega) (by omega), fun h2 e2 => ?_⟩⟩⟩
    · rw [hsz] at c; omega
    · omega
    · rw [t1.w, tb1.w, Int.toNat_natCast] at e2
      have hv : hG h1 (b + 1) i = (h (b + 1)).2.2 i := by show (h1 (b + 1)).2.2 i = _; rw [eb1]
      rw [hv] at e2
      subst e2
      refine ih (i + 1) _ (by omega) (he.tr (hE.put (Or.inr rfl))) (t1.put (tyb.2.2.2.2.2 i (by omega))) (fun j hj => ?_)
      rw [hS_g]
      by_cases hji : j = i
      · rw [if_pos ⟨rfl, hji⟩, hji]
      · rw [if_neg (fun e => hji e.2)]; exact hw j (by omega)
