/-! rooms: connected cells, the reference's labels, the component's queue -/
def lf_st (W : Nat → Int32) (a b : Nat) : Prop := a < 216 ∧ lf_adj a b ∧ W a = 0 ∧ W b = 0
theorem lf_st_sym {W : Nat → Int32} {a b : Nat} (h : lf_st W a b) : lf_st W b a := ⟨lf_adj_in h.1 h.2.1, lf_adj_sym h.1 h.2.1, h.2.2.2, h.2.2.1⟩
def lf_conn (W : Nat → Int32) (c d : Nat) : Prop := ∀ P : Nat → Prop, P c → (∀ a b, P a → lf_st W a b → P b) → P d
theorem lf_conn_r {W : Nat → Int32} (c : Nat) : lf_conn W c c := fun _ h _ => h
theorem lf_conn_s {W : Nat → Int32} {c a b : Nat} (h : lf_conn W c a) (s : lf_st W a b) : lf_conn W c b := fun P h0 hs => hs a b (h P h0 hs) s
theorem lf_conn_t {W : Nat → Int32} {c d e : Nat} (h : lf_conn W c d) (k : lf_conn W d e) : lf_conn W c e := k (lf_conn W c) h fun _ _ ha s => lf_conn_s ha s
theorem lf_conn_y {W : Nat → Int32} {c d : Nat} (h : lf_conn W c d) : lf_conn W d c := h (fun x => lf_conn W x c) (lf_conn_r c) fun a b ha s => lf_conn_t (lf_conn_s (lf_conn_r b) (lf_st_sym s)) ha
theorem lf_conn_in {W : Nat → Int32} {c d : Nat} (h : lf_conn W c d) (hc : c < 216) : d < 216 := h (fun x => x < 216) hc fun _ _ ha s => lf_adj_in ha s.2.1
/-- nothing but itself is connected to a solid cell -/
theorem lf_conn_w {W : Nat → Int32} {c d : Nat} (h : lf_conn W c d) : c = d ∨ W c = 0 := h (fun x => c = x ∨ W c = 0) (Or.inl rfl) fun a b ha s => by
  rcases ha with e | e
  · subst e
    exact Or.inr s.2.2.1
  · exact Or.inr e
/-- the least cell of its room -/
def lf_ls (W : Nat → Int32) (c : Nat) : Prop := ∀ d, d < c → ¬ lf_conn W d c
/-! the reference's labels -/
def lf_set (W : Nat → Int32) (l : Nat → Nat) (c : Nat) : Prop := ∀ d, lf_conn W c d → l c ≤ d
def lf_Lb (W : Nat → Int32) (l : Nat → Nat) : Prop := ∀ c, c < 216 → l c ≤ c ∧ lf_conn W c (l c)
theorem lf_lb0 (W : Nat → Int32) : lf_Lb W (fun c => c) := fun c _ => ⟨Nat.le_refl c, lf_conn_r c⟩
theorem lf_set_ls {W : Nat → Int32} {l : Nat → Nat} {c : Nat} (hc : c < 216) (b : lf_Lb W l) (h : lf_set W l c) : l c = c ↔ lf_ls W c := by
  constructor
  · intro e d hd k
    have := h d (lf_conn_y k)
    omega
  · intro k
    have a := (b c hc).1
    refine Classical.byContradiction fun hn => ?_
    exact k (l c) (by omega) (lf_conn_y (b c hc).2)
/-- a pass that changes nothing leaves every label settled -/
theorem lf_set_all {W : Nat → Int32} {l : Nat → Nat} (b : lf_Lb W l) (h : ∀ c d, lf_st W c d → l c ≤ l d) {c : Nat} (hc : c < 216) : lf_set W l c := by
  intro d k
  have a : l c ≤ l d := k (fun x => l c ≤ l x) (Nat.le_refl _) fun x y hx s => Nat.le_trans hx (h x y s)
  exact Nat.le_trans a (b d (lf_conn_in k hc)).1
/-- a pass settles one cell more, if one is left -/
theorem lf_setS {W : Nat → Int32} {l0 l : Nat → Nat} {k : Nat} (b0 : lf_Lb W l0) (hk : k < 216) (h : k ≤ lf_cn (lf_set W l0) 216) (hl : ∀ c, c < 216 → l c ≤ l0 c) (hs : ∀ c d, lf_st W c d → l c ≤ l0 d) : k + 1 ≤ lf_cn (lf_set W l) 216 := by
  have mono : ∀ c, c < 216 → lf_set W l0 c → lf_set W l c := fun c hc s d kd => Nat.le_trans (hl c hc) (s d kd)
  have nxt : ∀ a c, lf_set W l0 a → lf_st W a c → lf_set W l c := fun a c s t d kd => Nat.le_trans (hs c a (lf_st_sym t)) (s d (lf_conn_t (lf_conn_s (lf_conn_r a) t) kd))
  by_cases hx : ∃ a c, lf_set W l0 a ∧ lf_st W a c ∧ ¬ lf_set W l0 c
  · obtain ⟨a, c, sa, t, nc⟩ := hx
    have := lf_cn_lt (p := lf_set W l0) (q := lf_set W l) mono (lf_adj_in t.1 t.2.1) (nxt a c sa t) nc
    omega
  · have all : ∀ c, c < 216 → lf_set W l0 c := by
      intro c hc
      obtain ⟨m, km, hm⟩ := pk_least (fun x => lf_conn W c x) ⟨c, lf_conn_r c⟩
      have sm : lf_set W l0 m := by
        intro d kd
        have a := (b0 m (lf_conn_in km hc)).1
        have b : ¬ d < m := fun hd => hm d hd (lf_conn_t km kd)
        omega
      exact lf_conn_y km (lf_set W l0) sm fun a b ha t => Classical.byContradiction fun hb => hx ⟨a, b, ha, t, hb⟩
    have := lf_cn_all (p := lf_set W l) fun c hc => mono c hc (all c hc)
    omega
/-! the component's queue: a: marked, q: the queue, V0: marked before, tk: taken, wt: waiting -/
def lf_Bf (W V0 : Nat → Int32) (st tk wt : Nat) (X : Nat → Prop) (a q : Nat → Int32) : Prop :=
  (∀ j, j < wt → ∃ x, x < 216 ∧ q j = nI x ∧ W x = 0 ∧ a x ≠ 0 ∧ lf_conn W st x) ∧
  (∀ x, x < 216 → a x ≠ 0 → V0 x ≠ 0 ∨ lf_conn W st x) ∧
  (∀ x, x < 216 → V0 x ≠ 0 ∨ x = st → a x ≠ 0) ∧
  wt ≤ lf_cn (fun x => a x ≠ 0) 216 ∧
  ∀ x, x < 216 → a x ≠ 0 → V0 x ≠ 0 ∨ (∃ j, tk ≤ j ∧ j < wt ∧ q j = nI x) ∨ X x ∨ ∀ b, lf_adj x b → W b = 0 → a b ≠ 0
/-- a new cell is marked and waits -/
theorem lf_bfM {W V0 a q : Nat → Int32} {st tk wt x b : Nat} {X : Nat → Prop} (h : lf_Bf W V0 st tk wt X a q) (hx : x < 216) (kx : lf_conn W st x) (wx : W x = 0) (hb : lf_adj x b) (wb : W b = 0) (ab : a b = 0) (ht : tk ≤ wt) : wt < 216 ∧ lf_Bf W V0 st tk (wt + 1) X (upd a b 1) (upd q wt (nI b)) := by
  have b216 := lf_adj_in hx hb
  have one : (1 : Int32) ≠ 0 := by decide
  have up : ∀ y, a y ≠ 0 → upd a b 1 y ≠ 0 := by
    intro y hy
    by_cases e : y = b
    · subst e
      exact absurd ab hy
    · rw [pk_un e]; exact hy
  have lt := lf_cn_lt (p := fun y => a y ≠ 0) (q := fun y => upd a b 1 y ≠ 0) (n := 216) (fun y _ hy => up y hy) b216 (by show upd a b 1 b ≠ 0; rw [pk_us]; exact one) (fun z => z ab)
  have le := lf_cn_le (fun y => upd a b 1 y ≠ 0) 216
  have h4 := h.2.2.2.1
  refine ⟨by omega, fun j hj => ?_, fun y hy ha => ?_, fun y hy hv => up y (h.2.2.1 y hy hv), by omega, fun y hy ha => ?_⟩
  · by_cases e : j = wt
    · subst e
      exact ⟨b, b216, pk_us, wb, by rw [pk_us]; exact one, lf_conn_s kx ⟨hx, hb, wx, wb⟩⟩
    · obtain ⟨y, hy, e1, e2, e3, e4⟩ := h.1 j (by omega)
      exact ⟨y, hy, by rw [pk_un e]; exact e1, e2, up y e3, e4⟩
  · by_cases e : y = b
    · subst e
      exact Or.inr (lf_conn_s kx ⟨hx, hb, wx, wb⟩)
    · rw [pk_un e] at ha
      exact h.2.1 y hy ha
  · by_cases e : y = b
    · subst e
      exact Or.inr (Or.inl ⟨wt, ht, by omega, pk_us⟩)
    · rw [pk_un e] at ha
      rcases h.2.2.2.2 y hy ha with k | ⟨j, h1, h2, h3⟩ | k | k
      · exact Or.inl k
      · exact Or.inr (Or.inl ⟨j, h1, by omega, by rw [pk_un (by omega)]; exact h3⟩)
      · exact Or.inr (Or.inr (Or.inl k))
      · exact Or.inr (Or.inr (Or.inr fun c hc wc => up c (k c hc wc)))
/-- the first waiting one is taken -/
theorem lf_bfT {W V0 a q : Nat → Int32} {st tk wt x : Nat} (h : lf_Bf W V0 st tk wt (fun _ => False) a q) (e : q tk = nI x) (hx : x < 216) : lf_Bf W V0 st (tk + 1) wt (fun y => y = x) a q := by
  refine ⟨h.1, h.2.1, h.2.2.1, h.2.2.2.1, fun y hy ha => ?_⟩
  rcases h.2.2.2.2 y hy ha with k | ⟨j, h1, h2, h3⟩ | k | k
  · exact Or.inl k
  · by_cases ej : j = tk
    · subst ej
      rw [e] at h3
      exact Or.inr (Or.inr (Or.inl ((nI_eq (by omega) (by omega)).mp h3).symm))
    · exact Or.inr (Or.inl ⟨j, by omega, h2, h3⟩)
  · exact absurd k id
  · exact Or.inr (Or.inr (Or.inr k))
/-- its six sides are through -/
theorem lf_bfD {W V0 a q : Nat → Int32} {st tk wt x : Nat} (h : lf_Bf W V0 st tk wt (fun y => y = x) a q) (hd : ∀ t, t < 6 → ∀ b, lf_n x t = some b → W b = 0 → a b ≠ 0) : lf_Bf W V0 st tk wt (fun _ => False) a q := by
  refine ⟨h.1, h.2.1, h.2.2.1, h.2.2.2.1, fun y hy ha => ?_⟩
  rcases h.2.2.2.2 y hy ha with k | k | k | k
  · exact Or.inl k
  · exact Or.inr (Or.inl k)
  · refine Or.inr (Or.inr (Or.inr fun b hb wb => ?_))
    obtain ⟨t, ht, et⟩ := hb
    rw [k] at et
    exact hd t ht b et wb
  · exact Or.inr (Or.inr (Or.inr k))
/-! the component's rooms: V: marked, i: the next cell -/
def lf_Rm (W : Nat → Int32) (i : Nat) (V : Nat → Int32) : Prop := (∀ a b, V a ≠ 0 → lf_st W a b → V b ≠ 0) ∧ (∀ d, d < 216 → V d ≠ 0 → ∃ c, c < i ∧ lf_conn W c d) ∧ ∀ c, c < i → W c = 0 → V c ≠ 0
theorem lf_rm0 {W V : Nat → Int32} (h : ∀ c, c < 216 → V c = 0) : lf_Rm W 0 V := ⟨fun a _ ha s => absurd (h a s.1) ha, fun d hd k => absurd (h d hd) k, fun _ hc => absurd hc (Nat.not_lt_zero _)⟩
theorem lf_rmI {W V : Nat → Int32} {i : Nat} (h : lf_Rm W i V) (hi : i < 216) : V i = 0 ∧ W i = 0 ↔ W i = 0 ∧ lf_ls W i := by
  constructor
  · intro k
    refine ⟨k.2, fun d hd kd => ?_⟩
    have wd : W d = 0 := by
      rcases lf_conn_w kd with e | e
      · omega
      · exact e
    exact kd (fun x => V x ≠ 0) (h.2.2 d hd wd) (fun a b ha s => h.1 a b ha s) k.1
  · intro k
    refine ⟨Classical.byContradiction fun hv => ?_, k.1⟩
    obtain ⟨c, hc, kc⟩ := h.2.1 i hi hv
    exact k.2 c hc kc
theorem lf_rmN {W V : Nat → Int32} {i : Nat} (h : lf_Rm W i V) (hn : W i = 0 → V i ≠ 0) : lf_Rm W (i + 1) V := by
  refine ⟨h.1, fun d hd k => ?_, fun c hc wc => ?_⟩
  · obtain ⟨c, hc, kc⟩ := h.2.1 d hd k
    exact ⟨c, by omega, kc⟩
  · by_cases e : c = i
    · subst e
      exact hn wc
    · exact h.2.2 c (by omega) wc
/-- the queue before its first turn -/
theorem lf_bf0 {W V0 q : Nat → Int32} {i : Nat} (h : lf_Rm W i V0) (hi : i < 216) (wi : W i = 0) : lf_Bf W V0 i 0 1 (fun _ => False) (upd V0 i 1) (upd q 0 (nI i)) := by
  have one : (1 : Int32) ≠ 0 := by decide
  have up : ∀ y, V0 y ≠ 0 → upd V0 i 1 y ≠ 0 := by
    intro y hy
    by_cases e : y = i
    · subst e
      rw [pk_us]; exact one
    · rw [pk_un e]; exact hy
  have ai : upd V0 i 1 i ≠ 0 := by rw [pk_us]; exact one
  refine ⟨fun j hj => ?_, fun y hy ha => ?_, fun y _ hv => hv.elim (up y) (fun e => by rw [e]; exact ai), ?_, fun y hy ha => ?_⟩
  · have e : j = 0 := by omega
    subst e
    exact ⟨i, hi, pk_us, wi, ai, lf_conn_r i⟩
  · by_cases e : y = i
    · subst e
      exact Or.inr (lf_conn_r y)
    · rw [pk_un e] at ha
      exact Or.inl ha
  · have := lf_cn_lt (p := fun _ => False) (q := fun y => upd V0 i 1 y ≠ 0) (n := 216) (fun _ _ z => absurd z id) hi ai id
    omega
  · by_cases e : y = i
    · subst e
      exact Or.inr (Or.inl ⟨0, Nat.le_refl 0, by omega, pk_us⟩)
    · rw [pk_un e] at ha
      exact Or.inl ha
/-- the queue is empty: the room is marked -/
theorem lf_rmS {W V0 a q : Nat → Int32} {i tk wt : Nat} (h : lf_Rm W i V0) (hi : i < 216) (b : lf_Bf W V0 i tk wt (fun _ => False) a q) (ht : wt ≤ tk) : lf_Rm W (i + 1) a := by
  refine ⟨fun x y hx s => ?_, fun d hd k => ?_, fun c hc wc => ?_⟩
  · rcases b.2.2.2.2 x s.1 hx with k | ⟨j, h1, h2, _⟩ | k | k
    · exact b.2.2.1 y (lf_adj_in s.1 s.2.1) (Or.inl (h.1 x y k s))
    · omega
    · exact absurd k id
    · exact k y s.2.1 s.2.2.2
  · rcases b.2.1 d hd k with k | k
    · obtain ⟨c, hc, kc⟩ := h.2.1 d hd k
      exact ⟨c, by omega, kc⟩
    · exact ⟨i, by omega, k⟩
  · by_cases e : c = i
    · subst e
      exact b.2.2.1 c hi (Or.inr rfl)
    · exact b.2.2.1 c (by omega) (Or.inl (h.2.2 c (by omega) wc))
