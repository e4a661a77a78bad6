/-! the reference's light -/
/-- one pass, up to step k: f0 at its start, f now -/
def lf_Fw (W : Nat → Int32) (F f0 : Nat → Nat) (k : Nat) (f : Nat → Nat) : Prop := (∀ c, c < 216 → f0 c ≤ f c ∧ f c ≤ F c) ∧ ∀ j, j < k → ∀ d, lf_m (j / 6) (j % 6) = some d → W (j / 6) = 0 → f0 d ≤ f (j / 6) + 1
theorem lf_fw0 {W : Nat → Int32} {F f0 : Nat → Nat} (h : ∀ c, c < 216 → f0 c ≤ F c) : lf_Fw W F f0 0 f0 := ⟨fun c hc => ⟨Nat.le_refl _, h c hc⟩, fun j hj => absurd hj (Nat.not_lt_zero j)⟩
theorem lf_fwN {W : Nat → Int32} {F f0 f : Nat → Nat} {k : Nat} (hk : k < 1296) (h : lf_Fw W F f0 k f) (e : ∀ d, lf_m (k / 6) (k % 6) = some d → W (k / 6) = 0 → f d ≤ f (k / 6) + 1) : lf_Fw W F f0 (k + 1) f := by
  refine ⟨h.1, fun j hj d em w => ?_⟩
  by_cases ej : j = k
  · subst ej
    have a := e d em w
    have b := (h.1 d (lf_adj_in (by omega) (lf_adj_m em))).1
    omega
  · exact h.2 j (by omega) d em w
theorem lf_fwS {W : Nat → Int32} {F f0 f : Nat → Nat} {k d : Nat} (hk : k < 1296) (hc : lf_Cl W F) (h : lf_Fw W F f0 k f) (em : lf_m (k / 6) (k % 6) = some d) (w : W (k / 6) = 0) (hl : f (k / 6) + 1 < f d) : lf_Fw W F f0 (k + 1) (lf_u f (k / 6) (f d - 1)) := by
  have c216 : k / 6 < 216 := by omega
  have adj := lf_adj_m em
  have d216 := lf_adj_in c216 adj
  have up : ∀ x, f x ≤ lf_u f (k / 6) (f d - 1) x := by
    intro x
    by_cases ex : x = k / 6
    · rw [ex, lf_us]
      omega
    · rw [lf_uo ex]
      exact Nat.le_refl _
  refine ⟨fun x hx => ⟨Nat.le_trans (h.1 x hx).1 (up x), ?_⟩, fun j hj d' em' w' => ?_⟩
  · by_cases ex : x = k / 6
    · rw [ex, lf_us]
      have a := hc d (k / 6) d216 (lf_adj_sym c216 adj) w
      have b := (h.1 d d216).2
      omega
    · rw [lf_uo ex]
      exact (h.1 x hx).2
  · by_cases ej : j = k
    · subst ej
      have e : d = d' := by
        rw [em] at em'
        injection em'
      subst e
      rw [lf_us]
      have b := (h.1 d d216).1
      omega
    · have a := h.2 j (by omega) d' em' w'
      have b := up (j / 6)
      omega
theorem lf_fwE {W : Nat → Int32} {F f0 f : Nat → Nat} (h : lf_Fw W F f0 1296 f) {c d : Nat} (hc : c < 216) (ha : lf_adj c d) (w : W c = 0) : f0 d ≤ f c + 1 := by
  obtain ⟨s, hs, e⟩ := lf_adj_ex ha
  have e1 : (6 * c + s) / 6 = c := by omega
  have e2 : (6 * c + s) % 6 = s := by omega
  have k := h.2 (6 * c + s) (by omega) d
  rw [e1, e2] at k
  exact k e w
theorem lf_fwC {W : Nat → Int32} {F f0 f : Nat → Nat} (h : lf_Fw W F f0 1296 f) (e : ∀ c, c < 216 → f c = f0 c) : lf_Cl W f := by
  intro d c hd ha w
  rw [e d hd]
  exact lf_fwE h (lf_adj_in hd ha) (lf_adj_sym hd ha) w
theorem lf_nbool {m : Int32} (h : m = 0 ∨ m = 1) : narrow .boolean (.int m) = .int m := by
  rcases h with rfl | rfl
  · exact congrArg Value.int (by decide)
  · exact congrArg Value.int (by decide)
section
variable {W L A B C D : Nat → Int32}
/-- the second half of a step: the sky's light -/
theorem lf_y79 {post : Int32 → SY → Prop} {J : Int32 → Int32 → (Nat → Int32) → (Nat → Int32) → (Nat → Int32) → (Nat → Int32) → (Nat → Int32) → (Nat → Int32) → Prop} {m : Int32} {k d : Nat} {Fb b0 fb : Nat → Nat} (hk : k < 1296) (h12 : ∀ c, c < 216 → Fb c ≤ 12) (hc : lf_Cl W Fb) (hB : lf_eq B fb) (hb : lf_Fw W Fb b0 k fb) (em : lf_m (k / 6) (k % 6) = some d) (w : W (k / 6) = 0) (h0 : lf_Fw W Fb b0 (k + 1) fb → J m (nI (k + 1)) W L A B C D) (h1 : ∀ B' fb', lf_eq B' fb' → lf_Fw W Fb b0 (k + 1) fb' → J 1 (nI (k + 1)) W L A B' C D) : wY_flow_79 post J m (nI k) (nI (k / 6)) (nI d) W L A B C D := by
  have c216 : k / 6 < 216 := by omega
  have d216 := lf_adj_in c216 (lf_adj_m em)
  have x1 := (hb.1 d d216).2
  have x2 := h12 d d216
  have x3 := (hb.1 _ c216).2
  have x4 := h12 _ c216
  unfold wY_flow_79
  refine ⟨lf_in d216, lf_in c216, ?_⟩
  rw [lf_c d216, lf_c c216, hB d d216, hB _ c216]
  refine lf_m1 (by omega) (by omega) (fun le => nm_r (nI_1 k) (h0 (lf_fwN hk hb fun d' e' _ => ?_))) fun lt => ⟨lf_in d216, lf_in c216, ?_⟩
  · rw [em] at e'
    injection e' with e'
    subst e'
    exact le
  · refine nm_r (e' := upd B (k / 6) (nI (fb d - 1))) ?_ (nm_r (nI_1 k) (h1 _ _ (lf_eqU hB _ _) (lf_fwS hk hc hb em w lt)))
    obtain ⟨q, e⟩ : ∃ q, fb d = q + 1 := ⟨fb d - 1, by omega⟩
    rw [e, nI_pred]
    rfl
/-- one pass -/
theorem lf_yFlow4 {post : Int32 → SY → Prop} {Fa Fb a0 b0 : Nat → Nat} (ha12 : ∀ c, c < 216 → Fa c ≤ 12) (hb12 : ∀ c, c < 216 → Fb c ≤ 12) (hca : lf_Cl W Fa) (hcb : lf_Cl W Fb) (hp : ∀ m A' B' fa fb, m = 0 ∨ m = 1 → lf_eq A' fa → lf_eq B' fb → lf_Fw W Fa a0 1296 fa → lf_Fw W Fb b0 1296 fb → (m = 0 → (∀ c, c < 216 → fa c = a0 c) ∧ ∀ c, c < 216 → fb c = b0 c) → post m (W, L, A', B', C, D)) : ∀ (n k : Nat) (m : Int32) (A B : Nat → Int32) (fa fb : Nat → Nat), 1296 - k < n → k ≤ 1296 → (m = 0 ∨ m = 1) → lf_eq A fa → lf_eq B fb → lf_Fw W Fa a0 k fa → lf_Fw W Fb b0 k fb → (m = 0 → (∀ c, c < 216 → fa c = a0 c) ∧ ∀ c, c < 216 → fb c = b0 c) → wY_flow_4 post n m (nI k) W L A B C D := by
  intro n
  induction n with
  | zero => intro k m A B fa fb h; omega
  | succ n ih =>
    intro k m A B fa fb hn hk hm hA hB fwa fwb hz
    refine pk_le 1296 k (fun h => ?_) fun h => ⟨by decide, nm_r (lf_d6 (by omega)) ⟨by decide, ?_⟩⟩
    · have e : k = 1296 := by omega
      subst e
      exact ⟨lf_nbool hm, hp m A B fa fb hm hA hB fwa fwb hz⟩
    have c216 : k / 6 < 216 := by omega
    have skip : (∀ d, lf_m (k / 6) (k % 6) = some d → ¬ W (k / 6) = 0) → wY_flow_4 post n m (nI (k + 1)) W L A B C D := fun no => ih (k + 1) m A B fa fb (by omega) h hm hA hB (lf_fwN h fwa fun d e w => absurd w (no d e)) (lf_fwN h fwb fun d e w => absurd w (no d e)) hz
    rw [lf_r6 (c := k) (by omega)]
    refine lf_yNb c216 (by omega) (fun e => br_t (by decide) (nm_r (nI_1 k) (skip fun d e' => ?_))) fun d e => ?_
    · rw [e] at e'
      exact nomatch e'
    have d216 := lf_adj_in c216 (lf_adj_m e)
    refine br_f (nI_pos (by omega)) ⟨lf_in c216, ?_⟩
    rw [lf_c c216]
    refine br_c (fun w => ⟨lf_in d216, lf_in c216, ?_⟩) fun w => nm_r (nI_1 k) (skip fun _ _ => w)
    have x1 := (fwa.1 d d216).2
    have x2 := ha12 d d216
    have x3 := (fwa.1 _ c216).2
    have x4 := ha12 _ c216
    rw [lf_c d216, hA d d216, hA _ c216]
    refine lf_m1 (by omega) (by omega) (fun le => ?_) fun lt => ⟨lf_in d216, lf_in c216, nm_r (e' := upd A (k / 6) (nI (fa d - 1))) ?_ ?_⟩
    · have fa' : lf_Fw W Fa a0 (k + 1) fa := lf_fwN h fwa fun d' e' _ => by
        rw [e] at e'
        injection e' with e'
        subst e'
        exact le
      exact lf_y79 h hb12 hcb hB fwb e w (fun fb' => ih (k + 1) m A B fa fb (by omega) h hm hA hB fa' fb' hz) fun B' fb' k1 k2 => ih (k + 1) 1 A B' fa fb' (by omega) h (Or.inr rfl) hA k1 fa' k2 fun z => absurd z lf_10
    · obtain ⟨q, eq⟩ : ∃ q, fa d = q + 1 := ⟨fa d - 1, by omega⟩
      rw [eq, nI_pred]
      rfl
    · have fa' := lf_fwS h hca fwa e w lt
      have hA' := lf_eqU hA (k / 6) (fa d - 1)
      exact lf_y79 h hb12 hcb hB fwb e w (fun fb' => ih (k + 1) 1 _ B _ fb (by omega) h (Or.inr rfl) hA' hB fa' fb' fun z => absurd z lf_10) fun B' fb' k1 k2 => ih (k + 1) 1 _ B' _ fb' (by omega) h (Or.inr rfl) hA' k1 fa' k2 fun z => absurd z lf_10
theorem lf_yFlow {post : Int32 → SY → Prop} {Fa Fb a0 b0 : Nat → Nat} (ha12 : ∀ c, c < 216 → Fa c ≤ 12) (hb12 : ∀ c, c < 216 → Fb c ≤ 12) (hca : lf_Cl W Fa) (hcb : lf_Cl W Fb) (hA : lf_eq A a0) (hB : lf_eq B b0) (la : ∀ c, c < 216 → a0 c ≤ Fa c) (lb : ∀ c, c < 216 → b0 c ≤ Fb c) (hp : ∀ m A' B' fa fb, m = 0 ∨ m = 1 → lf_eq A' fa → lf_eq B' fb → lf_Fw W Fa a0 1296 fa → lf_Fw W Fb b0 1296 fb → (m = 0 → (∀ c, c < 216 → fa c = a0 c) ∧ ∀ c, c < 216 → fb c = b0 c) → post m (W, L, A', B', C, D)) : wpY_flow post (W, L, A, B, C, D) := ⟨1297, lf_yFlow4 ha12 hb12 hca hcb hp 1297 0 0 A B a0 b0 (by omega) (by omega) (Or.inl rfl) hA hB (lf_fw0 la) (lf_fw0 lb) fun _ => ⟨fun _ _ => rfl, fun _ _ => rfl⟩⟩
/-- the passes -/
theorem lf_y51 {post : SY → Prop} {sa sb Fa Fb : Nat → Nat} (h1 : ∀ c, c < 216 → sa c ≤ 12) (h2 : ∀ c, c < 216 → sb c ≤ 12) (La : lf_L W sa Fa) (Lb : lf_L W sb Fb) (hp : ∀ A' B', lf_eq A' Fa → lf_eq B' Fb → post (W, L, A', B', C, D)) : ∀ (n k : Nat) (m : Int32) (A B : Nat → Int32) (fa fb : Nat → Nat), 216 - k < n → k ≤ 216 → lf_eq A fa → lf_eq B fb → lf_Pre Fa sa k fa → lf_Pre Fb sb k fb → (m = 0 → lf_Cl W fa ∧ lf_Cl W fb) → wY_shine_51 post n m (nI k) W L A B C D := by
  intro n
  induction n with
  | zero => intro k m A B fa fb h; omega
  | succ n ih =>
    intro k m A B fa fb hn hk hA hB pa pb hz
    refine pk_le 216 k (fun h => hp A B (lf_eqC hA fun c hc => lf_preE La pa (Or.inl (by omega)) hc) (lf_eqC hB fun c hc => lf_preE Lb pb (Or.inl (by omega)) hc)) fun h => ?_
    refine br_c (fun z => hp A B (lf_eqC hA fun c hc => lf_preE La pa (Or.inr (hz z).1) hc) (lf_eqC hB fun c hc => lf_preE Lb pb (Or.inr (hz z).2) hc)) fun z => ?_
    refine lf_yFlow (fun c hc => lf_top h1 La hc) (fun c hc => lf_top h2 Lb hc) La.1.2 Lb.1.2 hA hB (fun c hc => (pa.1 c hc).2) (fun c hc => (pb.1 c hc).2) fun m' A' B' fa' fb' _ hA' hB' fwa fwb hz' => nm_r (nI_1 k) ?_
    refine ih (k + 1) m' A' B' fa' fb' (by omega) h hA' hB' (lf_preS La pa fwa.1 fun c d hc ha w => lf_fwE fwa hc ha w) (lf_preS Lb pb fwb.1 fun c d hc ha w => lf_fwE fwb hc ha w) fun z' => ⟨lf_fwC fwa (hz' z').1, lf_fwC fwb (hz' z').2⟩
theorem lf_yShine2 {post : SY → Prop} {l Fa Fb : Nat → Nat} (hl : ∀ c, l c ≤ 12 ∧ L c = nI (l c)) (La : lf_L W l Fa) (Lb : lf_L W (lf_s8 W) Fb) (hp : ∀ A' B', lf_eq A' Fa → lf_eq B' Fb → post (W, L, A', B', C, D)) : ∀ (n i : Nat) (A B : Nat → Int32), 216 - i < n → i ≤ 216 → (∀ c, c < i → A c = nI (l c) ∧ B c = nI (lf_s8 W c)) → wY_shine_2 post n (nI i) W L A B C D := by
  intro n
  induction n with
  | zero => intro i A B h; omega
  | succ n ih =>
    intro i A B hn hi hAB
    refine pk_le 216 i (fun h => ?_) fun h => ⟨lf_in h, lf_in h, nm_r (e' := upd A i (nI (l i))) (by rw [lf_c h, (hl i).2]) ?_⟩
    · exact ⟨217, lf_y51 (fun c _ => (hl c).1) (fun c _ => lf_s812 W c) La Lb hp 217 0 1 A B l (lf_s8 W) (by omega) (by omega) (fun c hc => (hAB c (by omega)).1) (fun c hc => (hAB c (by omega)).2) (lf_pre0 (fun c _ => (hl c).1) La) (lf_pre0 (fun c _ => lf_s812 W c) Lb) fun z => absurd z lf_10⟩
    have go : ∀ v, v = lf_s8 W i → wY_shine_2 post n (nI (i + 1)) W L (upd A i (nI (l i))) (upd B i (nI v)) C D := by
      intro v ev
      refine ih (i + 1) _ _ (by omega) h fun c hc => ?_
      by_cases e : c = i
      · subst e
        rw [pk_us, pk_us, ev]
        exact ⟨rfl, rfl⟩
      · rw [pk_un e, pk_un e]
        exact hAB c (by omega)
    refine lf_ySky h (fun sk => br_f lf_10 ⟨lf_in h, nm_r (e' := upd B i (nI 8)) (by rw [lf_c h]; rfl) (nm_r (nI_1 i) (go 8 (lf_s8t sk).symm))⟩) fun sk => br_t rfl ⟨lf_in h, nm_r (e' := upd B i (nI 0)) (by rw [lf_c h]; rfl) (nm_r (nI_1 i) (go 0 (lf_s8f sk).symm))⟩
theorem lf_yShine {post : SY → Prop} {l Fa Fb : Nat → Nat} (hl : ∀ c, l c ≤ 12 ∧ L c = nI (l c)) (La : lf_L W l Fa) (Lb : lf_L W (lf_s8 W) Fb) (hp : ∀ A' B', lf_eq A' Fa → lf_eq B' Fb → post (W, L, A', B', C, D)) : wpY_shine post (W, L, A, B, C, D) := ⟨217, lf_yShine2 hl La Lb hp 217 0 A B (by omega) (by omega) fun c hc => absurd hc (Nat.not_lt_zero c)⟩
theorem lf_yLight {post : Int32 → Prop} {fa fb : Nat → Nat} {c : Nat} (hc : c < 216) (hA : lf_eq A fa) (hB : lf_eq B fb) (a12 : fa c ≤ 12) (b12 : fb c ≤ 12) (h : post (nI (max (fa c) (fb c)))) : wpY_light post (W, L, A, B, C, D) (nI c) := by
  unfold wpY_light
  dsimp only
  refine ⟨lf_in hc, lf_in hc, ?_⟩
  rw [lf_c hc, hA c hc, hB c hc]
  refine pk_le (fa c) (fb c) (fun k => ⟨lf_in hc, ?_⟩) fun k => ⟨lf_in hc, ?_⟩
  · rw [Nat.max_eq_right k] at h
    exact h
  · rw [Nat.max_eq_left (by omega)] at h
    exact h
end
