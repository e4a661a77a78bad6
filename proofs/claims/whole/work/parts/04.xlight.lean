/-! the component's light (written by gen-04.py: once for glow, once for glowWithout) -/
def lf_eq (G : Nat → Int32) (f : Nat → Nat) : Prop := ∀ c, c < 216 → G c = nI (f c)
def lf_u (f : Nat → Nat) (d v : Nat) : Nat → Nat := fun x => if x = d then v else f x
theorem lf_us {f : Nat → Nat} {d v : Nat} : lf_u f d v d = v := if_pos rfl
theorem lf_uo {f : Nat → Nat} {d v x : Nat} (h : x ≠ d) : lf_u f d v x = f x := if_neg h
theorem lf_eqU {G : Nat → Int32} {f : Nat → Nat} (h : lf_eq G f) (d v : Nat) : lf_eq (upd G d (nI v)) (lf_u f d v) := by
  intro c hc
  by_cases e : c = d
  · subst e
    rw [pk_us, lf_us]
  · rw [pk_un e, lf_uo e]
    exact h c hc
theorem lf_eqC {G : Nat → Int32} {f g : Nat → Nat} (h : lf_eq G f) (e : ∀ c, c < 216 → f c = g c) : lf_eq G g := fun c hc => by rw [h c hc, e c hc]
/-- the lamps' strengths as if e held none -/
def lf_wo (l : Nat → Nat) (e : Int32) (c : Nat) : Nat := if nI c = e then 0 else l c
theorem lf_wo1 {l : Nat → Nat} {e : Int32} {c : Nat} (h : nI c = e) : lf_wo l e c = 0 := if_pos h
theorem lf_wo0 {l : Nat → Nat} {e : Int32} {c : Nat} (h : ¬ nI c = e) : lf_wo l e c = l c := if_neg h
theorem lf_wo12 {l : Nat → Nat} (h : ∀ c, l c ≤ 12) (e : Int32) (c : Nat) : lf_wo l e c ≤ 12 := by
  by_cases k : nI c = e
  · rw [lf_wo1 k]; omega
  · rw [lf_wo0 k]; exact h c
theorem lf_woM {l : Nat → Nat} {c : Nat} (hc : c < 216) : lf_wo l (-1) c = l c := lf_wo0 fun h => by
  have := congrArg Int32.toInt h
  rw [nI_toInt (by omega), show (-1 : Int32).toInt = -1 from by decide] at this
  omega
/-- the sky as a source -/
noncomputable def lf_s8 (W : Nat → Int32) (c : Nat) : Nat := @ite Nat (lf_sky W c) (Classical.propDecidable _) 8 0
theorem lf_s8t {W : Nat → Int32} {c : Nat} (h : lf_sky W c) : lf_s8 W c = 8 := if_pos h
theorem lf_s8f {W : Nat → Int32} {c : Nat} (h : ¬ lf_sky W c) : lf_s8 W c = 0 := if_neg h
theorem lf_s812 (W : Nat → Int32) (c : Nat) : lf_s8 W c ≤ 12 := by
  by_cases h : lf_sky W c
  · rw [lf_s8t h]; omega
  · rw [lf_s8f h]; omega
section
variable {W L G H V Q : Nat → Int32}
theorem lf_xDarkA {post : SX → Prop} : ∀ (n i : Nat) (G : Nat → Int32), 216 - i < n → i ≤ 216 → (∀ c, c < i → G c = nI 0) → (∀ G', lf_eq G' (fun _ => 0) → post (W, L, G', H, V, Q)) → wX_darken__glow_2 post n (nI i) W L G H V Q := by
  intro n
  induction n with
  | zero => intro i G h; omega
  | succ n ih =>
    intro i G hn hi hG hp
    refine pk_le 216 i (fun h => hp G fun c hc => hG c (by omega)) fun h => ⟨lf_in h, nm_r (e' := upd G i 0) (by rw [lf_c h]) (nm_r (nI_1 i) ?_)⟩
    refine ih (i + 1) (upd G i 0) (by omega) h (fun c hc => ?_) hp
    by_cases e : c = i
    · subst e
      exact pk_us
    · rw [pk_un e]
      exact hG c (by omega)
theorem lf_xLampsA {post : SX → Prop} {l : Nat → Nat} {e : Int32} (hl : ∀ c, l c ≤ 12 ∧ L c = nI (l c)) : ∀ (n i : Nat) (G : Nat → Int32), 216 - i < n → i ≤ 216 → lf_eq G (fun c => if c < i then lf_wo l e c else 0) → (∀ G', lf_eq G' (lf_wo l e) → post (W, L, G', H, V, Q)) → wX_addLamps__glow_2 post e n (nI i) W L G H V Q := by
  intro n
  induction n with
  | zero => intro i G h; omega
  | succ n ih =>
    intro i G hn hi hG hp
    have up : ∀ G', lf_eq G' (lf_u (fun c => if c < i then lf_wo l e c else 0) i (lf_wo l e i)) → lf_eq G' (fun c => if c < i + 1 then lf_wo l e c else 0) := by
      intro G' k
      refine lf_eqC k fun c hc => ?_
      by_cases ec : c = i
      · subst ec
        rw [lf_us]
        show _ = if c < c + 1 then lf_wo l e c else 0
        rw [if_pos (by omega)]
      · rw [lf_uo ec]
        show (if c < i then lf_wo l e c else 0) = if c < i + 1 then lf_wo l e c else 0
        by_cases k : c < i
        · rw [if_pos k, if_pos (by omega)]
        · rw [if_neg k, if_neg (by omega)]
    have same : lf_wo l e i = 0 → lf_eq G (fun c => if c < i + 1 then lf_wo l e c else 0) := by
      intro z
      refine up G (lf_eqC hG fun c hc => ?_)
      by_cases ec : c = i
      · subst ec
        rw [lf_us, z]
        exact if_neg (Nat.lt_irrefl c)
      · rw [lf_uo ec]
    refine pk_le 216 i (fun h => hp G (lf_eqC hG fun c hc => ?_)) fun h => ?_
    · show (if c < i then lf_wo l e c else 0) = _
      rw [if_pos (by omega)]
    have g0 : G (nI i).toNatClampNeg = nI 0 := by
      rw [lf_c h, hG i h]
      show nI (if i < i then lf_wo l e i else 0) = nI 0
      rw [if_neg (by omega)]
    have li : L (nI i).toNatClampNeg = nI (l i) := by
      rw [lf_c h]
      exact (hl i).2
    have l12 := (hl i).1
    refine br_c (fun ee => nm_r (nI_1 i) (ih (i + 1) G (by omega) h (same (lf_wo1 ee)) hp)) fun ee => ⟨lf_in h, lf_in h, ?_⟩
    refine pk_le (l i) 0 (fun k => nm_r (nI_1 i) (ih (i + 1) G (by omega) h (same (by rw [lf_wo0 ee]; omega)) hp)) (fun k => ⟨lf_in h, lf_in h, ?_⟩) li g0
    refine nm_r (e' := upd G i (nI (lf_wo l e i))) (by rw [li, lf_c h, lf_wo0 ee]) (nm_r (nI_1 i) ?_)
    exact ih (i + 1) _ (by omega) h (up _ (lf_eqU hG i _)) hp
theorem lf_xSkiesA {post : SX → Prop} {f : Nat → Nat} (hf : ∀ c, c < 216 → f c ≤ 12) : ∀ (n i : Nat) (G : Nat → Int32), 216 - i < n → i ≤ 216 → lf_eq G (fun c => if c < i then max (f c) (lf_s8 W c) else f c) → (∀ G', lf_eq G' (fun c => max (f c) (lf_s8 W c)) → post (W, L, G', H, V, Q)) → wX_addSky__glow_2 post n (nI i) W L G H V Q := by
  intro n
  induction n with
  | zero => intro i G h; omega
  | succ n ih =>
    intro i G hn hi hG hp
    have up : ∀ G', lf_eq G' (lf_u (fun c => if c < i then max (f c) (lf_s8 W c) else f c) i (max (f i) (lf_s8 W i))) → lf_eq G' (fun c => if c < i + 1 then max (f c) (lf_s8 W c) else f c) := by
      intro G' k
      refine lf_eqC k fun c hc => ?_
      by_cases ec : c = i
      · subst ec
        rw [lf_us]
        show _ = if c < c + 1 then max (f c) (lf_s8 W c) else f c
        rw [if_pos (by omega)]
      · rw [lf_uo ec]
        show (if c < i then max (f c) (lf_s8 W c) else f c) = if c < i + 1 then max (f c) (lf_s8 W c) else f c
        by_cases k : c < i
        · rw [if_pos k, if_pos (by omega)]
        · rw [if_neg k, if_neg (by omega)]
    have same : max (f i) (lf_s8 W i) = f i → lf_eq G (fun c => if c < i + 1 then max (f c) (lf_s8 W c) else f c) := by
      intro z
      refine up G (lf_eqC hG fun c hc => ?_)
      by_cases ec : c = i
      · subst ec
        rw [lf_us, z]
        exact if_neg (Nat.lt_irrefl c)
      · rw [lf_uo ec]
    refine pk_le 216 i (fun h => hp G (lf_eqC hG fun c hc => ?_)) fun h => ⟨lf_in h, ?_⟩
    · show (if c < i then max (f c) (lf_s8 W c) else f c) = _
      rw [if_pos (by omega)]
    have g0 : G (nI i).toNatClampNeg = nI (f i) := by
      rw [lf_c h, hG i h]
      show nI (if i < i then max (f i) (lf_s8 W i) else f i) = nI (f i)
      rw [if_neg (by omega)]
    have f12 := hf i h
    have s8 : lf_s8 W i = 8 ∨ lf_s8 W i = 0 := by
      by_cases k : lf_sky W i
      · exact Or.inl (lf_s8t k)
      · exact Or.inr (lf_s8f k)
    refine pk_le 8 (f i) (fun k => nm_r (nI_1 i) (ih (i + 1) G (by omega) h (same (by omega)) hp)) (fun k => ?_) rfl g0
    refine lf_xSky h (fun sk => br_f lf_10 ⟨lf_in h, ?_⟩) fun sk => br_t rfl (nm_r (nI_1 i) (ih (i + 1) G (by omega) h (same (by rw [lf_s8f sk]; omega)) hp))
    have e8 : max (f i) (lf_s8 W i) = 8 := by
      rw [lf_s8t sk]
      omega
    refine nm_r (e' := upd G i (nI (max (f i) (lf_s8 W i)))) (by rw [lf_c h, e8]; rfl) (nm_r (nI_1 i) ?_)
    exact ih (i + 1) _ (by omega) h (up _ (lf_eqU hG i _)) hp
/-- from cell i (level g + 1) to its six sides -/
theorem lf_xSF9A {post : SX → Prop} {i g : Nat} {f F : Nat → Nat} (hi : i < 216) (h12 : ∀ c, c < 216 → F c ≤ 12) (hg : g ≤ 12) (hF : ∀ c, lf_adj i c → W c = 0 → g ≤ F c) (hp : ∀ G' f', lf_eq G' f' → (∀ c, c < 216 → f c ≤ f' c ∧ f' c ≤ F c ∧ (f' c = f c ∨ f' c = g)) → (∀ c, lf_adj i c → W c = 0 → g ≤ f' c) → post (W, L, G', H, V, Q)) : ∀ (n s : Nat) (G : Nat → Int32) (f' : Nat → Nat), 6 - s < n → s ≤ 6 → lf_eq G f' → (∀ c, c < 216 → f c ≤ f' c ∧ f' c ≤ F c ∧ (f' c = f c ∨ f' c = g)) → (∀ t, t < s → ∀ c, lf_n i t = some c → W c = 0 → g ≤ f' c) → wX_spreadFrom__glow_9 post (nI i) (nI g) n (nI s) W L G H V Q := by
  intro n
  induction n with
  | zero => intro s G f' h; omega
  | succ n ih =>
    intro s G f' hn hs hG hf hd
    refine pk_le 6 s (fun h => hp G f' hG hf fun c ⟨t, ht, e⟩ w => hd t (by omega) c e w) fun h => ?_
    have nxt : ∀ f'' : Nat → Nat, (∀ c, c < 216 → f' c ≤ f'' c) → (∀ c, lf_n i s = some c → W c = 0 → g ≤ f'' c) → ∀ t, t < s + 1 → ∀ c, lf_n i t = some c → W c = 0 → g ≤ f'' c := by
      intro f'' up k t ht c e w
      by_cases et : t = s
      · subst et
        exact k c e w
      · exact Nat.le_trans (hd t (by omega) c e w) (up c (lf_nm hi (by omega) e).1)
    refine lf_xNb hi h (fun e => lf_xFreeN (br_t rfl (nm_r (nI_1 s) (ih (s + 1) G f' (by omega) h hG hf (nxt f' (fun _ _ => Nat.le_refl _) fun c e' => ?_))))) fun d e => ?_
    · rw [e] at e'
      exact nomatch e'
    have hd216 := (lf_nm hi h e).1
    have gd : G (nI d).toNatClampNeg = nI (f' d) := by
      rw [lf_c hd216]
      exact hG d hd216
    have fd := (hf d hd216).2.1
    have Fd := h12 d hd216
    refine lf_xFree hd216 (fun w => br_f lf_10 ⟨lf_in hd216, ?_⟩) fun w => br_t rfl (nm_r (nI_1 s) (ih (s + 1) G f' (by omega) h hG hf (nxt f' (fun _ _ => Nat.le_refl _) fun c e' w' => ?_)))
    · refine pk_le g (f' d) (fun k => nm_r (nI_1 s) (ih (s + 1) G f' (by omega) h hG hf (nxt f' (fun _ _ => Nat.le_refl _) fun c e' _ => ?_))) (fun k => ⟨lf_in hd216, nm_r (e' := upd G d (nI g)) (by rw [lf_c hd216]) (nm_r (nI_1 s) ?_)⟩) rfl gd
      · rw [e] at e'
        injection e' with e'
        subst e'
        exact k
      · refine ih (s + 1) _ (lf_u f' d g) (by omega) h (lf_eqU hG d g) (fun c hc => ?_) (nxt _ (fun c hc => ?_) fun c e' _ => ?_)
        · by_cases ec : c = d
          · subst ec
            rw [lf_us]
            have a := hf c hc
            exact ⟨by omega, hF c ⟨s, h, e⟩ w, Or.inr rfl⟩
          · rw [lf_uo ec]
            exact hf c hc
        · by_cases ec : c = d
          · subst ec
            rw [lf_us]
            omega
          · rw [lf_uo ec]
            exact Nat.le_refl _
        · rw [e] at e'
          injection e' with e'
          subst e'
          rw [lf_us]
          exact Nat.le_refl _
    · rw [e] at e'
      injection e' with e'
      subst e'
      exact absurd w' w
theorem lf_xSFA {post : SX → Prop} {i g : Nat} {f F : Nat → Nat} (hi : i < 216) (h12 : ∀ c, c < 216 → F c ≤ 12) (hG : lf_eq G f) (hf : ∀ c, c < 216 → f c ≤ F c) (fi : f i = g + 1) (hc : lf_Cl W F) (hp : ∀ G' f', lf_eq G' f' → (∀ c, c < 216 → f c ≤ f' c ∧ f' c ≤ F c ∧ (f' c = f c ∨ f' c = g)) → (∀ c, lf_adj i c → W c = 0 → g ≤ f' c) → post (W, L, G', H, V, Q)) : wpX_spreadFrom__glow post (W, L, G, H, V, Q) (nI i) := by
  have a := hf i hi
  have b := h12 i hi
  unfold wpX_spreadFrom__glow
  dsimp only
  refine ⟨lf_in hi, nm_r (e' := nI g) (by rw [lf_c hi, hG i hi, fi, nI_pred]) ⟨7, ?_⟩⟩
  refine lf_xSF9A hi h12 (by omega) (fun c ha w => ?_) hp 7 0 G f (by omega) (by omega) hG (fun c hc => ⟨Nat.le_refl _, hf c hc, Or.inl rfl⟩) fun t ht => absurd ht (Nat.not_lt_zero t)
  have := hc i c hi ha w
  omega
theorem lf_xSp10A {post : SX → Prop} {J : Int32 → (Nat → Int32) → (Nat → Int32) → (Nat → Int32) → (Nat → Int32) → (Nat → Int32) → (Nat → Int32) → Prop} {g : Nat} {F s : Nat → Nat} (h12 : ∀ c, c < 216 → F c ≤ 12) (hc : lf_Cl W F) (hg : g < 13) (hJ : ∀ G' f', lf_eq G' f' → lf_Lv W F s (g + 1) 216 f' → J (nI g) W L G' H V Q) : ∀ (n i : Nat) (G : Nat → Int32) (f : Nat → Nat), 216 - i < n → i ≤ 216 → lf_eq G f → lf_Lv W F s (g + 1) i f → wX_spread__glow_10 post J (nI (g + 1)) n (nI i) W L G H V Q := by
  intro n
  induction n with
  | zero => intro i G f h; omega
  | succ n ih =>
    intro i G f hn hi hG hv
    refine pk_le 216 i (fun h => nm_r (pk_m1 g) (hJ G f hG ?_)) fun h => ⟨lf_in h, ?_⟩
    · have e : i = 216 := by omega
      rw [e] at hv
      exact hv
    have gi : G (nI i).toNatClampNeg = nI (f i) := by
      rw [lf_c h]
      exact hG i h
    have a := (hv.1 i h).2
    have b := h12 i h
    refine pk_eq (f i) (g + 1) (fun e => ?_) (fun e => nm_r (nI_1 i) (ih (i + 1) G f (by omega) h hG (lf_lvN hv e))) gi rfl
    refine lf_xSFA h h12 hG (fun c hc => (hv.1 c hc).2) e hc fun G' f' k1 k2 k3 => nm_r (nI_1 i) ?_
    refine ih (i + 1) G' f' (by omega) h k1 (lf_lvS hv (fun c hc => ?_) fun c ha w => ?_)
    · have := k2 c hc
      omega
    · have := k3 c ha w
      omega
theorem lf_xSp3A {post : SX → Prop} {F s : Nat → Nat} (hL : lf_L W s F) (h12 : ∀ c, c < 216 → F c ≤ 12) (hp : ∀ G', lf_eq G' F → post (W, L, G', H, V, Q)) : ∀ (n l : Nat) (G : Nat → Int32) (f : Nat → Nat), l < n → 1 ≤ l → l ≤ 12 → lf_eq G f → lf_Lv W F s l 0 f → wX_spread__glow_3 post n (nI l) W L G H V Q := by
  intro n
  induction n with
  | zero => intro l G f h; omega
  | succ n ih =>
    intro l G f hn h1 hl hG hv
    refine pk_le l 1 (fun h => hp G (lf_eqC hG fun c hc => ?_)) fun h => ?_
    · have e : l = 1 := by omega
      subst e
      exact lf_lvE hL hv hc
    · obtain ⟨g, rfl⟩ : ∃ g, l = g + 1 := ⟨l - 1, by omega⟩
      exact ⟨217, lf_xSp10A h12 hL.1.2 (by omega) (fun G' f' k1 k2 => ih g G' f' (by omega) (by omega) (by omega) k1 (lf_lvD k2)) 217 0 G f (by omega) (by omega) hG hv⟩
theorem lf_xSpreadA {post : SX → Prop} {F s : Nat → Nat} (hs : ∀ c, c < 216 → s c ≤ 12) (hL : lf_L W s F) (hG : lf_eq G s) (hp : ∀ G', lf_eq G' F → post (W, L, G', H, V, Q)) : wpX_spread__glow post (W, L, G, H, V, Q) := ⟨13, lf_xSp3A hL (fun _ hc => lf_top hs hL hc) hp 13 12 G s (by omega) (by omega) (by omega) hG (lf_lv0 hs hL)⟩
theorem lf_xDarkenA {post : SX → Prop} (hp : ∀ G', lf_eq G' (fun _ => 0) → post (W, L, G', H, V, Q)) : wpX_darken__glow post (W, L, G, H, V, Q) := ⟨217, lf_xDarkA 217 0 G (by omega) (by omega) (fun c hc => absurd hc (Nat.not_lt_zero c)) hp⟩
theorem lf_xAddLampsA {post : SX → Prop} {l : Nat → Nat} {e : Int32} (hl : ∀ c, l c ≤ 12 ∧ L c = nI (l c)) (hG : lf_eq G (fun _ => 0)) (hp : ∀ G', lf_eq G' (lf_wo l e) → post (W, L, G', H, V, Q)) : wpX_addLamps__glow post (W, L, G, H, V, Q) e := ⟨217, lf_xLampsA hl 217 0 G (by omega) (by omega) (lf_eqC hG fun c _ => (if_neg (Nat.not_lt_zero c)).symm) hp⟩
theorem lf_xAddSkyA {post : SX → Prop} {f : Nat → Nat} (hf : ∀ c, c < 216 → f c ≤ 12) (hG : lf_eq G f) (hp : ∀ G', lf_eq G' (fun c => max (f c) (lf_s8 W c)) → post (W, L, G', H, V, Q)) : wpX_addSky__glow post (W, L, G, H, V, Q) := ⟨217, lf_xSkiesA hf 217 0 G (by omega) (by omega) (lf_eqC hG fun c _ => (if_neg (Nat.not_lt_zero c)).symm) hp⟩
theorem lf_xLightA {post : SX → Prop} {l Fa Fb : Nat → Nat} {e : Int32} (hl : ∀ c, l c ≤ 12 ∧ L c = nI (l c)) (ha : lf_L W (lf_wo l e) Fa) (hb : lf_L W (lf_s8 W) Fb) (hp : ∀ G', lf_eq G' (fun c => max (Fa c) (Fb c)) → post (W, L, G', H, V, Q)) : wpX_findLight__glow post (W, L, G, H, V, Q) e := by
  unfold wpX_findLight__glow
  dsimp only
  refine lf_xDarkenA fun G1 k1 => ?_
  refine lf_xAddLampsA hl k1 fun G2 k2 => ?_
  refine lf_xAddSkyA (fun c _ => lf_wo12 (fun c => (hl c).1) e c) k2 fun G3 k3 => ?_
  refine lf_xSpreadA (fun c hc => ?_) (lf_max ha hb) k3 fun G4 k4 => hp G4 k4
  have a := lf_wo12 (fun c => (hl c).1) e c
  have b := lf_s812 W c
  show max (lf_wo l e c) (lf_s8 W c) ≤ 12
  omega
end
section
variable {W L G H V Q : Nat → Int32}
theorem lf_xDarkB {post : SX → Prop} : ∀ (n i : Nat) (G : Nat → Int32), 216 - i < n → i ≤ 216 → (∀ c, c < i → G c = nI 0) → (∀ G', lf_eq G' (fun _ => 0) → post (W, L, H, G', V, Q)) → wX_darken__glowWithout_2 post n (nI i) W L H G V Q := by
  intro n
  induction n with
  | zero => intro i G h; omega
  | succ n ih =>
    intro i G hn hi hG hp
    refine pk_le 216 i (fun h => hp G fun c hc => hG c (by omega)) fun h => ⟨lf_in h, nm_r (e' := upd G i 0) (by rw [lf_c h]) (nm_r (nI_1 i) ?_)⟩
    refine ih (i + 1) (upd G i 0) (by omega) h (fun c hc => ?_) hp
    by_cases e : c = i
    · subst e
      exact pk_us
    · rw [pk_un e]
      exact hG c (by omega)
theorem lf_xLampsB {post : SX → Prop} {l : Nat → Nat} {e : Int32} (hl : ∀ c, l c ≤ 12 ∧ L c = nI (l c)) : ∀ (n i : Nat) (G : Nat → Int32), 216 - i < n → i ≤ 216 → lf_eq G (fun c => if c < i then lf_wo l e c else 0) → (∀ G', lf_eq G' (lf_wo l e) → post (W, L, H, G', V, Q)) → wX_addLamps__glowWithout_2 post e n (nI i) W L H G V Q := by
  intro n
  induction n with
  | zero => intro i G h; omega
  | succ n ih =>
    intro i G hn hi hG hp
    have up : ∀ G', lf_eq G' (lf_u (fun c => if c < i then lf_wo l e c else 0) i (lf_wo l e i)) → lf_eq G' (fun c => if c < i + 1 then lf_wo l e c else 0) := by
      intro G' k
      refine lf_eqC k fun c hc => ?_
      by_cases ec : c = i
      · subst ec
        rw [lf_us]
        show _ = if c < c + 1 then lf_wo l e c else 0
        rw [if_pos (by omega)]
      · rw [lf_uo ec]
        show (if c < i then lf_wo l e c else 0) = if c < i + 1 then lf_wo l e c else 0
        by_cases k : c < i
        · rw [if_pos k, if_pos (by omega)]
        · rw [if_neg k, if_neg (by omega)]
    have same : lf_wo l e i = 0 → lf_eq G (fun c => if c < i + 1 then lf_wo l e c else 0) := by
      intro z
      refine up G (lf_eqC hG fun c hc => ?_)
      by_cases ec : c = i
      · subst ec
        rw [lf_us, z]
        exact if_neg (Nat.lt_irrefl c)
      · rw [lf_uo ec]
    refine pk_le 216 i (fun h => hp G (lf_eqC hG fun c hc => ?_)) fun h => ?_
    · show (if c < i then lf_wo l e c else 0) = _
      rw [if_pos (by omega)]
    have g0 : G (nI i).toNatClampNeg = nI 0 := by
      rw [lf_c h, hG i h]
      show nI (if i < i then lf_wo l e i else 0) = nI 0
      rw [if_neg (by omega)]
    have li : L (nI i).toNatClampNeg = nI (l i) := by
      rw [lf_c h]
      exact (hl i).2
    have l12 := (hl i).1
    refine br_c (fun ee => nm_r (nI_1 i) (ih (i + 1) G (by omega) h (same (lf_wo1 ee)) hp)) fun ee => ⟨lf_in h, lf_in h, ?_⟩
    refine pk_le (l i) 0 (fun k => nm_r (nI_1 i) (ih (i + 1) G (by omega) h (same (by rw [lf_wo0 ee]; omega)) hp)) (fun k => ⟨lf_in h, lf_in h, ?_⟩) li g0
    refine nm_r (e' := upd G i (nI (lf_wo l e i))) (by rw [li, lf_c h, lf_wo0 ee]) (nm_r (nI_1 i) ?_)
    exact ih (i + 1) _ (by omega) h (up _ (lf_eqU hG i _)) hp
theorem lf_xSkiesB {post : SX → Prop} {f : Nat → Nat} (hf : ∀ c, c < 216 → f c ≤ 12) : ∀ (n i : Nat) (G : Nat → Int32), 216 - i < n → i ≤ 216 → lf_eq G (fun c => if c < i then max (f c) (lf_s8 W c) else f c) → (∀ G', lf_eq G' (fun c => max (f c) (lf_s8 W c)) → post (W, L, H, G', V, Q)) → wX_addSky__glowWithout_2 post n (nI i) W L H G V Q := by
  intro n
  induction n with
  | zero => intro i G h; omega
  | succ n ih =>
    intro i G hn hi hG hp
    have up : ∀ G', lf_eq G' (lf_u (fun c => if c < i then max (f c) (lf_s8 W c) else f c) i (max (f i) (lf_s8 W i))) → lf_eq G' (fun c => if c < i + 1 then max (f c) (lf_s8 W c) else f c) := by
      intro G' k
      refine lf_eqC k fun c hc => ?_
      by_cases ec : c = i
      · subst ec
        rw [lf_us]
        show _ = if c < c + 1 then max (f c) (lf_s8 W c) else f c
        rw [if_pos (by omega)]
      · rw [lf_uo ec]
        show (if c < i then max (f c) (lf_s8 W c) else f c) = if c < i + 1 then max (f c) (lf_s8 W c) else f c
        by_cases k : c < i
        · rw [if_pos k, if_pos (by omega)]
        · rw [if_neg k, if_neg (by omega)]
    have same : max (f i) (lf_s8 W i) = f i → lf_eq G (fun c => if c < i + 1 then max (f c) (lf_s8 W c) else f c) := by
      intro z
      refine up G (lf_eqC hG fun c hc => ?_)
      by_cases ec : c = i
      · subst ec
        rw [lf_us, z]
        exact if_neg (Nat.lt_irrefl c)
      · rw [lf_uo ec]
    refine pk_le 216 i (fun h => hp G (lf_eqC hG fun c hc => ?_)) fun h => ⟨lf_in h, ?_⟩
    · show (if c < i then max (f c) (lf_s8 W c) else f c) = _
      rw [if_pos (by omega)]
    have g0 : G (nI i).toNatClampNeg = nI (f i) := by
      rw [lf_c h, hG i h]
      show nI (if i < i then max (f i) (lf_s8 W i) else f i) = nI (f i)
      rw [if_neg (by omega)]
    have f12 := hf i h
    have s8 : lf_s8 W i = 8 ∨ lf_s8 W i = 0 := by
      by_cases k : lf_sky W i
      · exact Or.inl (lf_s8t k)
      · exact Or.inr (lf_s8f k)
    refine pk_le 8 (f i) (fun k => nm_r (nI_1 i) (ih (i + 1) G (by omega) h (same (by omega)) hp)) (fun k => ?_) rfl g0
    refine lf_xSky h (fun sk => br_f lf_10 ⟨lf_in h, ?_⟩) fun sk => br_t rfl (nm_r (nI_1 i) (ih (i + 1) G (by omega) h (same (by rw [lf_s8f sk]; omega)) hp))
    have e8 : max (f i) (lf_s8 W i) = 8 := by
      rw [lf_s8t sk]
      omega
    refine nm_r (e' := upd G i (nI (max (f i) (lf_s8 W i)))) (by rw [lf_c h, e8]; rfl) (nm_r (nI_1 i) ?_)
    exact ih (i + 1) _ (by omega) h (up _ (lf_eqU hG i _)) hp
/-- from cell i (level g + 1) to its six sides -/
theorem lf_xSF9B {post : SX → Prop} {i g : Nat} {f F : Nat → Nat} (hi : i < 216) (h12 : ∀ c, c < 216 → F c ≤ 12) (hg : g ≤ 12) (hF : ∀ c, lf_adj i c → W c = 0 → g ≤ F c) (hp : ∀ G' f', lf_eq G' f' → (∀ c, c < 216 → f c ≤ f' c ∧ f' c ≤ F c ∧ (f' c = f c ∨ f' c = g)) → (∀ c, lf_adj i c → W c = 0 → g ≤ f' c) → post (W, L, H, G', V, Q)) : ∀ (n s : Nat) (G : Nat → Int32) (f' : Nat → Nat), 6 - s < n → s ≤ 6 → lf_eq G f' → (∀ c, c < 216 → f c ≤ f' c ∧ f' c ≤ F c ∧ (f' c = f c ∨ f' c = g)) → (∀ t, t < s → ∀ c, lf_n i t = some c → W c = 0 → g ≤ f' c) → wX_spreadFrom__glowWithout_9 post (nI i) (nI g) n (nI s) W L H G V Q := by
  intro n
  induction n with
  | zero => intro s G f' h; omega
  | succ n ih =>
    intro s G f' hn hs hG hf hd
    refine pk_le 6 s (fun h => hp G f' hG hf fun c ⟨t, ht, e⟩ w => hd t (by omega) c e w) fun h => ?_
    have nxt : ∀ f'' : Nat → Nat, (∀ c, c < 216 → f' c ≤ f'' c) → (∀ c, lf_n i s = some c → W c = 0 → g ≤ f'' c) → ∀ t, t < s + 1 → ∀ c, lf_n i t = some c → W c = 0 → g ≤ f'' c := by
      intro f'' up k t ht c e w
      by_cases et : t = s
      · subst et
        exact k c e w
      · exact Nat.le_trans (hd t (by omega) c e w) (up c (lf_nm hi (by omega) e).1)
    refine lf_xNb hi h (fun e => lf_xFreeN (br_t rfl (nm_r (nI_1 s) (ih (s + 1) G f' (by omega) h hG hf (nxt f' (fun _ _ => Nat.le_refl _) fun c e' => ?_))))) fun d e => ?_
    · rw [e] at e'
      exact nomatch e'
    have hd216 := (lf_nm hi h e).1
    have gd : G (nI d).toNatClampNeg = nI (f' d) := by
      rw [lf_c hd216]
      exact hG d hd216
    have fd := (hf d hd216).2.1
    have Fd := h12 d hd216
    refine lf_xFree hd216 (fun w => br_f lf_10 ⟨lf_in hd216, ?_⟩) fun w => br_t rfl (nm_r (nI_1 s) (ih (s + 1) G f' (by omega) h hG hf (nxt f' (fun _ _ => Nat.le_refl _) fun c e' w' => ?_)))
    · refine pk_le g (f' d) (fun k => nm_r (nI_1 s) (ih (s + 1) G f' (by omega) h hG hf (nxt f' (fun _ _ => Nat.le_refl _) fun c e' _ => ?_))) (fun k => ⟨lf_in hd216, nm_r (e' := upd G d (nI g)) (by rw [lf_c hd216]) (nm_r (nI_1 s) ?_)⟩) rfl gd
      · rw [e] at e'
        injection e' with e'
        subst e'
        exact k
      · refine ih (s + 1) _ (lf_u f' d g) (by omega) h (lf_eqU hG d g) (fun c hc => ?_) (nxt _ (fun c hc => ?_) fun c e' _ => ?_)
        · by_cases ec : c = d
          · subst ec
            rw [lf_us]
            have a := hf c hc
            exact ⟨by omega, hF c ⟨s, h, e⟩ w, Or.inr rfl⟩
          · rw [lf_uo ec]
            exact hf c hc
        · by_cases ec : c = d
          · subst ec
            rw [lf_us]
            omega
          · rw [lf_uo ec]
            exact Nat.le_refl _
        · rw [e] at e'
          injection e' with e'
          subst e'
          rw [lf_us]
          exact Nat.le_refl _
    · rw [e] at e'
      injection e' with e'
      subst e'
      exact absurd w' w
theorem lf_xSFB {post : SX → Prop} {i g : Nat} {f F : Nat → Nat} (hi : i < 216) (h12 : ∀ c, c < 216 → F c ≤ 12) (hG : lf_eq G f) (hf : ∀ c, c < 216 → f c ≤ F c) (fi : f i = g + 1) (hc : lf_Cl W F) (hp : ∀ G' f', lf_eq G' f' → (∀ c, c < 216 → f c ≤ f' c ∧ f' c ≤ F c ∧ (f' c = f c ∨ f' c = g)) → (∀ c, lf_adj i c → W c = 0 → g ≤ f' c) → post (W, L, H, G', V, Q)) : wpX_spreadFrom__glowWithout post (W, L, H, G, V, Q) (nI i) := by
  have a := hf i hi
  have b := h12 i hi
  unfold wpX_spreadFrom__glowWithout
  dsimp only
  refine ⟨lf_in hi, nm_r (e' := nI g) (by rw [lf_c hi, hG i hi, fi, nI_pred]) ⟨7, ?_⟩⟩
  refine lf_xSF9B hi h12 (by omega) (fun c ha w => ?_) hp 7 0 G f (by omega) (by omega) hG (fun c hc => ⟨Nat.le_refl _, hf c hc, Or.inl rfl⟩) fun t ht => absurd ht (Nat.not_lt_zero t)
  have := hc i c hi ha w
  omega
theorem lf_xSp10B {post : SX → Prop} {J : Int32 → (Nat → Int32) → (Nat → Int32) → (Nat → Int32) → (Nat → Int32) → (Nat → Int32) → (Nat → Int32) → Prop} {g : Nat} {F s : Nat → Nat} (h12 : ∀ c, c < 216 → F c ≤ 12) (hc : lf_Cl W F) (hg : g < 13) (hJ : ∀ G' f', lf_eq G' f' → lf_Lv W F s (g + 1) 216 f' → J (nI g) W L H G' V Q) : ∀ (n i : Nat) (G : Nat → Int32) (f : Nat → Nat), 216 - i < n → i ≤ 216 → lf_eq G f → lf_Lv W F s (g + 1) i f → wX_spread__glowWithout_10 post J (nI (g + 1)) n (nI i) W L H G V Q := by
  intro n
  induction n with
  | zero => intro i G f h; omega
  | succ n ih =>
    intro i G f hn hi hG hv
    refine pk_le 216 i (fun h => nm_r (pk_m1 g) (hJ G f hG ?_)) fun h => ⟨lf_in h, ?_⟩
    · have e : i = 216 := by omega
      rw [e] at hv
      exact hv
    have gi : G (nI i).toNatClampNeg = nI (f i) := by
      rw [lf_c h]
      exact hG i h
    have a := (hv.1 i h).2
    have b := h12 i h
    refine pk_eq (f i) (g + 1) (fun e => ?_) (fun e => nm_r (nI_1 i) (ih (i + 1) G f (by omega) h hG (lf_lvN hv e))) gi rfl
    refine lf_xSFB h h12 hG (fun c hc => (hv.1 c hc).2) e hc fun G' f' k1 k2 k3 => nm_r (nI_1 i) ?_
    refine ih (i + 1) G' f' (by omega) h k1 (lf_lvS hv (fun c hc => ?_) fun c ha w => ?_)
    · have := k2 c hc
      omega
    · have := k3 c ha w
      omega
theorem lf_xSp3B {post : SX → Prop} {F s : Nat → Nat} (hL : lf_L W s F) (h12 : ∀ c, c < 216 → F c ≤ 12) (hp : ∀ G', lf_eq G' F → post (W, L, H, G', V, Q)) : ∀ (n l : Nat) (G : Nat → Int32) (f : Nat → Nat), l < n → 1 ≤ l → l ≤ 12 → lf_eq G f → lf_Lv W F s l 0 f → wX_spread__glowWithout_3 post n (nI l) W L H G V Q := by
  intro n
  induction n with
  | zero => intro l G f h; omega
  | succ n ih =>
    intro l G f hn h1 hl hG hv
    refine pk_le l 1 (fun h => hp G (lf_eqC hG fun c hc => ?_)) fun h => ?_
    · have e : l = 1 := by omega
      subst e
      exact lf_lvE hL hv hc
    · obtain ⟨g, rfl⟩ : ∃ g, l = g + 1 := ⟨l - 1, by omega⟩
      exact ⟨217, lf_xSp10B h12 hL.1.2 (by omega) (fun G' f' k1 k2 => ih g G' f' (by omega) (by omega) (by omega) k1 (lf_lvD k2)) 217 0 G f (by omega) (by omega) hG hv⟩
theorem lf_xSpreadB {post : SX → Prop} {F s : Nat → Nat} (hs : ∀ c, c < 216 → s c ≤ 12) (hL : lf_L W s F) (hG : lf_eq G s) (hp : ∀ G', lf_eq G' F → post (W, L, H, G', V, Q)) : wpX_spread__glowWithout post (W, L, H, G, V, Q) := ⟨13, lf_xSp3B hL (fun _ hc => lf_top hs hL hc) hp 13 12 G s (by omega) (by omega) (by omega) hG (lf_lv0 hs hL)⟩
theorem lf_xDarkenB {post : SX → Prop} (hp : ∀ G', lf_eq G' (fun _ => 0) → post (W, L, H, G', V, Q)) : wpX_darken__glowWithout post (W, L, H, G, V, Q) := ⟨217, lf_xDarkB 217 0 G (by omega) (by omega) (fun c hc => absurd hc (Nat.not_lt_zero c)) hp⟩
theorem lf_xAddLampsB {post : SX → Prop} {l : Nat → Nat} {e : Int32} (hl : ∀ c, l c ≤ 12 ∧ L c = nI (l c)) (hG : lf_eq G (fun _ => 0)) (hp : ∀ G', lf_eq G' (lf_wo l e) → post (W, L, H, G', V, Q)) : wpX_addLamps__glowWithout post (W, L, H, G, V, Q) e := ⟨217, lf_xLampsB hl 217 0 G (by omega) (by omega) (lf_eqC hG fun c _ => (if_neg (Nat.not_lt_zero c)).symm) hp⟩
theorem lf_xAddSkyB {post : SX → Prop} {f : Nat → Nat} (hf : ∀ c, c < 216 → f c ≤ 12) (hG : lf_eq G f) (hp : ∀ G', lf_eq G' (fun c => max (f c) (lf_s8 W c)) → post (W, L, H, G', V, Q)) : wpX_addSky__glowWithout post (W, L, H, G, V, Q) := ⟨217, lf_xSkiesB hf 217 0 G (by omega) (by omega) (lf_eqC hG fun c _ => (if_neg (Nat.not_lt_zero c)).symm) hp⟩
theorem lf_xLightB {post : SX → Prop} {l Fa Fb : Nat → Nat} {e : Int32} (hl : ∀ c, l c ≤ 12 ∧ L c = nI (l c)) (ha : lf_L W (lf_wo l e) Fa) (hb : lf_L W (lf_s8 W) Fb) (hp : ∀ G', lf_eq G' (fun c => max (Fa c) (Fb c)) → post (W, L, H, G', V, Q)) : wpX_findLight__glowWithout post (W, L, H, G, V, Q) e := by
  unfold wpX_findLight__glowWithout
  dsimp only
  refine lf_xDarkenB fun G1 k1 => ?_
  refine lf_xAddLampsB hl k1 fun G2 k2 => ?_
  refine lf_xAddSkyB (fun c _ => lf_wo12 (fun c => (hl c).1) e c) k2 fun G3 k3 => ?_
  refine lf_xSpreadB (fun c hc => ?_) (lf_max ha hb) k3 fun G4 k4 => hp G4 k4
  have a := lf_wo12 (fun c => (hl c).1) e c
  have b := lf_s812 W c
  show max (lf_wo l e c) (lf_s8 W c) ≤ 12
  omega
end
