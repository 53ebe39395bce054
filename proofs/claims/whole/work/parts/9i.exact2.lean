/-! THE MODEL: exact, inexact -/
theorem sp_exactM {G : xG} {l : Launch} {n : Nat} {h : xH} {wl tl z kd mn un pl v w : Int} {Po : Int → Nat → xH → Prop} (tm : isM n h wl tl z) (t : nuM n h z kd mn un pl v w) (hy : kd = 2 → ∀ h' n' (z' : Nat) V W, hF sM n h h' → n ≤ n' → n' ≤ n + 5 → isM n' h' wl tl (z' : Int) → lowR (un * 2 ^ pl.toNat) (2 ^ (-pl).toNat) V W → 0 ≤ V → 0 < W → (V = 0 → W = 1) → isEx n' h' z' (if V = 0 then 0 else if mn = 0 then 1 else -1) V W → Po 1 n' h') (hn : kd ≠ 2 → Po 0 n h) : S_X9_exact G l 26 n h Po := by
  refine S_X9_exact_of (fun k hl C E => X9_exact_b0 (n0 := 0) C E 26 n h ⟨tm.ok, sp_kindM tm t ⟨⟨?_, rgS (by decide) (by decide)⟩, fun g => ?_, fun g => ⟨Or.inl rfl, hn g⟩⟩⟩)
  · rcases t with t | ⟨_, _, _, t | t | t | t⟩ <;> rw [t.1] <;> exact rgS (by decide) (by decide)
  · rcases t with ⟨t1, t2, t3⟩ | ⟨zn, rfl, tmn, t | t | t | t⟩
    · omega
    · have := t.1; omega
    · obtain ⟨t1, x, c, q, t2, t3, t4, t5⟩ := t
      refine ⟨tm.ok, sp_value tm t2 ⟨tm.ok, sp_exactOf tm t3 (fun h1 n1 z1 V W e1 hn1 hn2 tm1 hl hV hW hVW hex => ⟨tm1.ok, fun h2 e2 => ⟨Or.inr rfl, hy g h2 n1 z1 V W (e1.tr ((sM26 (hE26 e2)).f (n := n)) (Nat.le_refl _)) hn1 hn2 (tm1.num e2) (by rw [t4, t5]; exact hl) hV hW hVW ?_⟩⟩)⟩⟩
      have := hex.mv (hE26 e2) (fun i hi => show ¬ i = 26 by omega)
      have hsg : (if sgB mn = true then (-1 : Int) else 1) = if mn = 0 then 1 else -1 := by
        unfold sgB
        rcases tmn with e | e <;> rw [e] <;> rfl
      rw [hsg] at this
      exact this
    · have := t.1; omega
    · have := t.1; omega
theorem sp_realE {G : xG} {l : Launch} {n : Nat} {h : xH} {wl tl nm sg v w : Int} {z : Nat} {Po : UInt64 → Nat → xH → Prop} (tm : isM n h wl tl nm) (t : isEx n h z sg v w) (hw : 0 < w) (hp : ∀ h' n' x e m, hF sM n h h' → n ≤ n' → n' ≤ n + 2 → isM n' h' wl tl nm → nrR v w e m → isVl x (decide (sg < 0)) (m.toNat * 2 ^ (e + 1074).toNat) → Po x n' h') : S_X9_real G l 26 z n h Po := by
  have h47 : 47 < n := tm.1.1
  refine S_X9_real_of (fun k hl C E => X9_real_b0 (n0 := 0) C E 26 z n h ⟨t.any, rg_xI, fun g => ?_, fun g => ?_⟩)
  · refine sp_above t (fun za ra sa ta _ => sp_below h47 t (fun h1 n1 zb rb sb k1 hn1 hn2 _ tb => ?_))
    have tm1 : isM n1 h1 wl tl nm := tm.fr (S := fun _ => False) k1 hn1 id id
    have ta1 : isWh n1 h1 za ra sa sg v := ta.fr (S := fun _ => False) k1 hn1 id id
    refine ⟨tm1.ok, sp_ratio tm1 ta1 tb hw (fun h2 x e m e2 tm2 hn hx => X9_real_b29 (n0 := 0) C E x n1 h2 (hp h2 n1 x e m ?_ hn1 hn2 tm2 hn hx))⟩
    exact (hK.f k1).tr ((sM35 (e2.mono (fun i hi => ⟨hi.1, by omega⟩))).f (n := n)) (Nat.le_refl _)
  · rw [xI_at] at g
    have := t.kd.2.2
    rw [if_neg (by omega)] at g
    exact absurd rfl g
theorem sp_inexactM {G : xG} {l : Launch} {n : Nat} {h : xH} {wl tl z kd mn un pl v w : Int} {Po : Int → Nat → xH → Prop} (tm : isM n h wl tl z) (t : nuM n h z kd mn un pl v w) (hy : kd = 1 → ∀ h' n' (z' : Nat) x e m, hF sM n h h' → n ≤ n' → n' ≤ n + 3 → isM n' h' wl tl (z' : Int) → nrR v w e m → isRl n' h' z' x 0 → isVl x (sgB mn) (m.toNat * 2 ^ (e + 1074).toNat) → Po 1 n' h') (hn : kd ≠ 1 → Po 0 n h) : S_X9_inexact G l 26 n h Po := by
  have h47 : 47 < n := tm.1.1
  refine S_X9_inexact_of (fun k hl C E => X9_inexact_b0 (n0 := 0) C E 26 n h ?_)
  have w14 : kd ≠ 1 → X9_inexact_w14 G k n h := fun g => X9_inexact_b14 (n0 := 0) C E n h ⟨Or.inl rfl, hn g⟩
  rw [tm.g25]
  rcases t with ⟨t1, t2, t3⟩ | ⟨zn, rfl, tmn, t | t | t | t⟩
  · exact ⟨tm.ok, fun _ => w14 (by omega), fun g => by omega⟩
  · refine ⟨tm.ok, fun g => by omega, fun _ => ⟨tm.ok, sp_isDoubleN tm t.2.1 ⟨rgS (by decide) (by decide), fun _ => ?_, fun g => absurd rfl g⟩⟩⟩
    rw [tm.g25]
    refine ⟨tm.ok, tm.ok, sp_realE tm t.2.1 t.2.2.2.1 (fun h1 n1 x e m e1 hn1 hn2 tm1 hnr hx => sp_of (by omega) (fun h2 k2 t2 => ?_))⟩
    have tm2 : isM (n1 + 1) h2 wl tl (zn : Int) := tm1.fr (S := fun _ => False) k2 (by omega) id id
    refine ⟨tm2.ok, fun h3 e3 => ⟨Or.inr rfl, hy t.1 h3 (n1 + 1) n1 x e m ?_ (by omega) (by omega) (tm2.num e3) hnr (t2.fr (hE26 e3).f (Nat.le_refl _) (show ¬ n1 = 26 by omega)) ?_⟩⟩
    · exact (e1.tr (hK.f k2) hn1).tr ((sM26 (hE26 e3)).f (n := n1)) hn1
    · have hsg : decide ((if v = 0 then (0 : Int) else if mn = 0 then 1 else -1) < 0) = sgB mn := by
        have hv := t.2.2.2.2.1
        unfold sgB
        rcases tmn with e | e
        · rw [e]; split <;> rfl
        · have : v ≠ 0 := fun y => by have := (hv y).1; omega
          rw [if_neg this, e]; rfl
      rw [hsg] at hx
      exact hx
  · obtain ⟨t1, x, c, q, t2, t3, t4, t5⟩ := t
    exact ⟨tm.ok, fun g => by omega, fun _ => ⟨tm.ok, sp_isDoubleY tm t2 ⟨rgS (by decide) (by decide), fun g => by omega, fun _ => w14 (by omega)⟩⟩⟩
  · obtain ⟨t1, x, t2, t3⟩ := t
    exact ⟨tm.ok, fun g => by omega, fun _ => ⟨tm.ok, sp_isDoubleY tm t2 ⟨rgS (by decide) (by decide), fun g => by omega, fun _ => w14 (by omega)⟩⟩⟩
  · obtain ⟨t1, t4, x, t2⟩ := t
    exact ⟨tm.ok, fun g => by omega, fun _ => ⟨tm.ok, sp_isDoubleY tm t2 ⟨rgS (by decide) (by decide), fun g => by omega, fun _ => w14 (by omega)⟩⟩⟩
