/-! numbers, and the small methods of both sides (PURE-ROWS pk_us .. pk_cl, pk_m1, pk_ix stand ahead) -/
theorem lf_10 : ¬ (1 : Int32) = 0 := by decide
theorem lf_b1 : vp_nar .boolean 1 = 1 := by first | rfl | decide
theorem lf_b0 : vp_nar .boolean 0 = 0 := by first | rfl | decide
theorem lf_r6 {c : Nat} (h : c < 2 ^ 31) : nI c - nI c / 6 * 6 = nI (c % 6) := pk_rem (d := 6) h (by decide) (by decide)
theorem lf_d6 {c : Nat} (h : c < 2 ^ 31) : nI c / 6 = nI (c / 6) := pk_div (d := 6) h (by decide) (by decide)
theorem lf_y6 {c : Nat} (h : c < 2 ^ 31) : (nI c / 6) - (nI c / 6) / 6 * 6 = nI (c / 6 % 6) := by
  rw [lf_d6 h]
  exact lf_r6 (by omega)
theorem lf_z36 {c : Nat} (h : c < 2 ^ 31) : nI c / 36 = nI (c / 36) := pk_div (d := 36) h (by decide) (by decide)
/-- light less one against light -/
theorem lf_m1 {a b : Nat} {A B : Prop} (ha : a < 2 ^ 30) (hb : b < 2 ^ 30) (f : a ≤ b + 1 → A) (g : b + 1 < a → B) : (nI a - 1 ≤ nI b → A) ∧ (¬ nI a - 1 ≤ nI b → B) := by
  match a with
  | 0 =>
    refine br_t ?_ (f (by omega))
    have e : (nI 0 - 1).toInt = -1 := by decide
    rw [Int32.le_iff_toInt_le, e, nI_toInt (by omega)]
    omega
  | a + 1 =>
    rw [nI_pred]
    exact pk_le a b (fun h => f (by omega)) (fun h => g (by omega))
def lf_bad (x : Int32) : Prop := x < 0 ∨ nI 216 ≤ x
theorem lf_ix (x : Int32) : lf_bad x ∨ ∃ c, c < 216 ∧ x = nI c := by
  rcases pk_ix x (n := 216) (by decide) with h | h | h
  · exact Or.inl (Or.inl h)
  · exact Or.inl (Or.inr h)
  · exact Or.inr h
theorem lf_bad_n {c : Nat} (hc : c < 216) : ¬ lf_bad (nI c) := fun h => h.elim (nI_pos (by omega)) (nI_ge hc (by decide))
theorem lf_in {c : Nat} (hc : c < 216) : vp_in (nI c) 216 := vp_in_nI hc (by decide)
theorem lf_c {c : Nat} (hc : c < 216) : (nI c).toNatClampNeg = c := nI_clamp (by omega)
theorem lf_inj {a b : Nat} (ha : a < 216) (hb : b < 216) (e : nI a = nI b) : a = b := (nI_eq (by omega) (by omega)).mp e
/-! neighbours, case by case -/
theorem lf_n0t {c : Nat} (h : 0 < c % 6) : lf_n c 0 = some (c - 1) := if_pos h
theorem lf_n0f {c : Nat} (h : ¬ 0 < c % 6) : lf_n c 0 = none := if_neg h
theorem lf_n1t {c : Nat} (h : c % 6 < 5) : lf_n c 1 = some (c + 1) := if_pos h
theorem lf_n1f {c : Nat} (h : ¬ c % 6 < 5) : lf_n c 1 = none := if_neg h
theorem lf_n2t {c : Nat} (h : 0 < c / 6 % 6) : lf_n c 2 = some (c - 6) := if_pos h
theorem lf_n2f {c : Nat} (h : ¬ 0 < c / 6 % 6) : lf_n c 2 = none := if_neg h
theorem lf_n3t {c : Nat} (h : c / 6 % 6 < 5) : lf_n c 3 = some (c + 6) := if_pos h
theorem lf_n3f {c : Nat} (h : ¬ c / 6 % 6 < 5) : lf_n c 3 = none := if_neg h
theorem lf_n4t {c : Nat} (h : 0 < c / 36) : lf_n c 4 = some (c - 36) := if_pos h
theorem lf_n4f {c : Nat} (h : ¬ 0 < c / 36) : lf_n c 4 = none := if_neg h
theorem lf_n5t {c : Nat} (h : c / 36 < 5) : lf_n c 5 = some (c + 36) := if_pos h
theorem lf_n5f {c : Nat} (h : ¬ c / 36 < 5) : lf_n c 5 = none := if_neg h
theorem lf_s1 {c : Nat} (h : 0 < c % 6) : nI c - 1 = nI (c - 1) := pk_sub (b := 1) (by omega)
theorem lf_s6 {c : Nat} (h : 0 < c / 6 % 6) : nI c - 6 = nI (c - 6) := pk_sub (b := 6) (by omega)
theorem lf_s36 {c : Nat} (h : 36 ≤ c) : nI c - 36 = nI (c - 36) := pk_sub (b := 36) h
/-! the component's small methods -/
theorem lf_xGood1 {post : Int32 → Prop} {c : Nat} (hc : c < 216) (h : post 1) : wpX_isGood post (nI c) := br_f (nI_pos (by omega)) (br_f (nI_ge (b := 216) hc (by decide)) h)
theorem lf_xGood0 {post : Int32 → Prop} {x : Int32} (hx : lf_bad x) (h : post 0) : wpX_isGood post x := by
  by_cases h0 : x < 0
  · exact br_t h0 h
  · exact br_f h0 (br_t (hx.resolve_left h0) h)
theorem lf_xX {post : Int32 → Prop} {c : Nat} (hc : c < 216) (h : post (nI (c % 6))) : wpX_xOf post (nI c) := by
  refine ⟨by decide, ?_⟩
  rw [lf_r6 (by omega)]
  exact h
theorem lf_xY {post : Int32 → Prop} {c : Nat} (hc : c < 216) (h : post (nI (c / 6 % 6))) : wpX_yOf post (nI c) := by
  refine ⟨by decide, by decide, ?_⟩
  rw [lf_y6 (by omega)]
  exact h
theorem lf_xZ {post : Int32 → Prop} {c : Nat} (hc : c < 216) (h : post (nI (c / 36))) : wpX_zOf post (nI c) := by
  refine ⟨by decide, ?_⟩
  rw [lf_z36 (by omega)]
  exact h
theorem lf_xLe {post : Int32 → Prop} {a b : Nat} (ha : a < 216) (hb : b < 216) (h1 : lf_le a b → post 1) (h0 : ¬ lf_le a b → post 0) : wpX_isAtMost post (nI a) (nI b) := by
  unfold wpX_isAtMost
  refine lf_xX ha (lf_xX hb (pk_lt (b % 6) (a % 6) (fun h => h0 fun k => ?_) fun h => ?_))
  · have := k.1
    omega
  refine lf_xY ha (lf_xY hb (pk_lt (b / 6 % 6) (a / 6 % 6) (fun h' => h0 fun k => ?_) fun h' => ?_))
  · have := k.2.1
    omega
  refine lf_xZ ha (lf_xZ hb (pk_lt (b / 36) (a / 36) (fun h'' => h0 fun k => ?_) fun h'' => h1 ⟨h, h', h''⟩))
  have := k.2.2
  omega
theorem lf_xBox {post : Int32 → Prop} {c a b : Nat} (hc : c < 216) (ha : a < 216) (hb : b < 216) (h1 : lf_le a c ∧ lf_le c b → post 1) (h0 : ¬ (lf_le a c ∧ lf_le c b) → post 0) : wpX_isInBox post (nI c) (nI a) (nI b) := by
  unfold wpX_isInBox
  refine lf_xLe ha hc (fun k => br_f lf_10 ?_) (fun k => br_t rfl (h0 fun z => k z.1))
  exact lf_xLe hc hb (fun k' => br_f lf_10 (h1 ⟨k, k'⟩)) (fun k' => br_t rfl (h0 fun z => k' z.2))
/-- a good box -/
def lf_gb (x y : Int32) : Prop := ∃ a b, a < 216 ∧ b < 216 ∧ x = nI a ∧ y = nI b ∧ lf_le a b
theorem lf_gb1 {x y : Int32} (h : lf_bad x) : ¬ lf_gb x y := fun ⟨a, _, ha, _, e, _, _⟩ => lf_bad_n ha (e ▸ h)
theorem lf_gb2 {x y : Int32} (h : lf_bad y) : ¬ lf_gb x y := fun ⟨_, b, _, hb, _, e, _⟩ => lf_bad_n hb (e ▸ h)
theorem lf_gb3 {a b : Nat} (ha : a < 216) (hb : b < 216) (h : ¬ lf_le a b) : ¬ lf_gb (nI a) (nI b) := by
  intro ⟨a', b', ha', hb', e, e', k⟩
  have e1 := lf_inj ha ha' e
  have e2 := lf_inj hb hb' e'
  subst e1 e2
  exact h k
theorem lf_xGB {post : Int32 → Prop} {x y : Int32} (h1 : lf_gb x y → post 1) (h0 : ¬ lf_gb x y → post 0) : wpX_isGoodBox post x y := by
  unfold wpX_isGoodBox
  rcases lf_ix x with bx | ⟨a, ha, rfl⟩
  · exact lf_xGood0 bx (br_t rfl (h0 (lf_gb1 bx)))
  refine lf_xGood1 ha (br_f lf_10 ?_)
  rcases lf_ix y with bd | ⟨b, hb, rfl⟩
  · exact lf_xGood0 bd (br_t rfl (h0 (lf_gb2 bd)))
  refine lf_xGood1 hb (br_f lf_10 ?_)
  exact lf_xLe ha hb (fun k => br_f lf_10 (h1 ⟨a, b, ha, hb, rfl, rfl, k⟩)) (fun k => br_t rfl (h0 (lf_gb3 ha hb k)))
def lf_end (c a b : Nat) : Prop := c % 6 = a % 6 ∨ c % 6 = b % 6 ∨ c / 6 % 6 = a / 6 % 6 ∨ c / 6 % 6 = b / 6 % 6 ∨ c / 36 = a / 36 ∨ c / 36 = b / 36
theorem lf_xEnd {post : Int32 → Prop} {c a b : Nat} (hc : c < 216) (ha : a < 216) (hb : b < 216) (h1 : lf_end c a b → post 1) (h0 : ¬ lf_end c a b → post 0) : wpX_isAtAnEnd post (nI c) (nI a) (nI b) := by
  unfold wpX_isAtAnEnd
  refine lf_xX hc (lf_xX ha (pk_eq (c % 6) (a % 6) (fun h => h1 (by unfold lf_end; omega)) fun e1 => ?_))
  refine lf_xX hc (lf_xX hb (pk_eq (c % 6) (b % 6) (fun h => h1 (by unfold lf_end; omega)) fun e2 => ?_))
  refine lf_xY hc (lf_xY ha (pk_eq (c / 6 % 6) (a / 6 % 6) (fun h => h1 (by unfold lf_end; omega)) fun e3 => ?_))
  refine lf_xY hc (lf_xY hb (pk_eq (c / 6 % 6) (b / 6 % 6) (fun h => h1 (by unfold lf_end; omega)) fun e4 => ?_))
  refine lf_xZ hc (lf_xZ ha (pk_eq (c / 36) (a / 36) (fun h => h1 (by unfold lf_end; omega)) fun e5 => ?_))
  exact lf_xZ hc (lf_xZ hb (pk_eq (c / 36) (b / 36) (fun h => h1 (by unfold lf_end; omega)) fun e6 => h0 (by unfold lf_end; omega)))
theorem lf_xNb {post : Int32 → Prop} {c s : Nat} (hc : c < 216) (hs : s < 6) (hn : lf_n c s = none → post (-1)) (hm : ∀ d, lf_n c s = some d → post (nI d)) : wpX_neighbour post (nI c) (nI s) := by
  unfold wpX_neighbour
  have hs' : s = 0 ∨ s = 1 ∨ s = 2 ∨ s = 3 ∨ s = 4 ∨ s = 5 := by omega
  rcases hs' with rfl | rfl | rfl | rfl | rfl | rfl
  · refine br_f (by decide) (br_f (by decide) (br_t (by decide) ?_))
    refine lf_xX hc (pk_le (c % 6) 0 (fun h => hn (lf_n0f (by omega))) fun h => ?_)
    rw [lf_s1 h]
    exact hm _ (lf_n0t h)
  · refine br_f (by decide) (br_f (by decide) (br_f (by decide) (br_t (by decide) ?_)))
    refine lf_xX hc (pk_le 5 (c % 6) (fun h => hn (lf_n1f (by omega))) fun h => ?_)
    exact (nI_add c 1 : nI c + 1 = nI (c + 1)) ▸ hm _ (lf_n1t h)
  · refine br_f (by decide) (br_f (by decide) (br_f (by decide) (br_f (by decide) (br_t (by decide) ?_))))
    refine lf_xY hc (pk_le (c / 6 % 6) 0 (fun h => hn (lf_n2f (by omega))) fun h => ?_)
    rw [lf_s6 h]
    exact hm _ (lf_n2t h)
  · refine br_f (by decide) (br_f (by decide) (br_f (by decide) (br_f (by decide) (br_f (by decide) (br_t (by decide) ?_)))))
    refine lf_xY hc (pk_le 5 (c / 6 % 6) (fun h => hn (lf_n3f (by omega))) fun h => ?_)
    have e : nI c + 6 = nI (c + 6) := nI_add c 6
    rw [e]
    exact hm _ (lf_n3t h)
  · refine br_f (by decide) (br_f (by decide) (br_f (by decide) (br_f (by decide) (br_f (by decide) (br_f (by decide) (br_t (by decide) ?_))))))
    refine lf_xZ hc (pk_le (c / 36) 0 (fun h => hn (lf_n4f (by omega))) fun h => ?_)
    rw [lf_s36 (by omega)]
    exact hm _ (lf_n4t h)
  · refine br_f (by decide) (br_t (by decide) ?_)
    refine lf_xZ hc (pk_le 5 (c / 36) (fun h => hn (lf_n5f (by omega))) fun h => ?_)
    have e : nI c + 36 = nI (c + 36) := nI_add c 36
    rw [e]
    exact hm _ (lf_n5t h)
section
variable {W L G H V Q : Nat → Int32}
theorem lf_xFreeN {post : Int32 → Prop} (h : post 0) : wpX_isFree post (W, L, G, H, V, Q) (-1) := by
  unfold wpX_isFree
  dsimp only
  exact lf_xGood0 (Or.inl (by decide)) (br_t rfl h)
theorem lf_xFree {post : Int32 → Prop} {d : Nat} (hd : d < 216) (h1 : W d = 0 → post 1) (h0 : ¬ W d = 0 → post 0) : wpX_isFree post (W, L, G, H, V, Q) (nI d) := by
  unfold wpX_isFree
  dsimp only
  refine lf_xGood1 hd (br_f lf_10 ⟨lf_in hd, ?_⟩)
  rw [lf_c hd]
  exact ⟨h1, h0⟩
theorem lf_xSkyL {post : Int32 → Prop} : ∀ n c : Nat, 216 - c < n → c < 300 → (lf_sky W c → post 1) → (¬ lf_sky W c → post 0) → wX_seesSky_2 post W L G H V Q n (nI c) := by
  intro n
  induction n with
  | zero => intro c h; omega
  | succ n ih =>
    intro c hn hc h1 h0
    refine pk_le 216 c (fun h => h1 (lf_sky0 h)) fun h => ?_
    refine lf_xFree h (fun w => br_f lf_10 (nm_r (nI_add c 36) ?_)) fun w => br_t rfl (h0 fun z => w ((lf_skyS h).mp z).1)
    exact ih (c + 36) (by omega) (by omega) (fun k => h1 ((lf_skyS h).mpr ⟨w, k⟩)) fun k => h0 fun z => k ((lf_skyS h).mp z).2
theorem lf_xSky {post : Int32 → Prop} {c : Nat} (hc : c < 216) (h1 : lf_sky W c → post 1) (h0 : ¬ lf_sky W c → post 0) : wpX_seesSky post (W, L, G, H, V, Q) (nI c) := ⟨217, lf_xSkyL 217 c (by omega) (by omega) h1 h0⟩
end
/-! the reference's small methods -/
section
variable {W L A B C D : Nat → Int32}
theorem lf_yBad0 {post : Int32 → Prop} {c : Nat} (hc : c < 216) (h : post 0) : wpY_bad post (W, L, A, B, C, D) (nI c) := br_f (nI_pos (by omega)) (br_t (nI_le (a := c) (b := 215) (by omega) (by decide)) h)
theorem lf_yBad1 {post : Int32 → Prop} {x : Int32} (hx : lf_bad x) (h : post 1) : wpY_bad post (W, L, A, B, C, D) x := by
  by_cases h0 : x < 0
  · exact br_t h0 h
  · obtain ⟨j, hj, rfl⟩ := nI_of h0
    have k := (nI_leI (a := 216) (by decide) hj).mp (hx.resolve_left h0)
    exact br_f h0 (br_f (nI_ge (a := 215) (by omega) hj) h)
theorem lf_yGB {post : Int32 → Prop} {x y : Int32} (h1 : lf_gb x y → post 0) (h0 : ¬ lf_gb x y → post 1) : wpY_badBox post (W, L, A, B, C, D) x y := by
  unfold wpY_badBox
  dsimp only
  rcases lf_ix x with bx | ⟨a, ha, rfl⟩
  · exact lf_yBad1 bx (br_f lf_10 (h0 (lf_gb1 bx)))
  refine lf_yBad0 ha (br_t rfl ?_)
  rcases lf_ix y with bd | ⟨b, hb, rfl⟩
  · exact lf_yBad1 bd (br_f lf_10 (h0 (lf_gb2 bd)))
  refine lf_yBad0 hb (br_t rfl ⟨by decide, by decide, ?_⟩)
  refine pk_lt (b % 6) (a % 6) (fun h => h0 (lf_gb3 ha hb fun k => ?_)) (fun h => ⟨by decide, by decide, by decide, by decide, ?_⟩) (lf_r6 (by omega)) (lf_r6 (by omega))
  · have := k.1
    omega
  refine pk_lt (b / 6 % 6) (a / 6 % 6) (fun h' => h0 (lf_gb3 ha hb fun k => ?_)) (fun h' => ⟨by decide, by decide, ?_⟩) (lf_y6 (by omega)) (lf_y6 (by omega))
  · have := k.2.1
    omega
  refine pk_le (a / 36) (b / 36) (fun h'' => h1 ⟨a, b, ha, hb, rfl, rfl, h, h', h''⟩) (fun h'' => h0 (lf_gb3 ha hb fun k => ?_)) (lf_z36 (by omega)) (lf_z36 (by omega))
  have := k.2.2
  omega
theorem lf_yBox68 {post : Int32 → Prop} {c a b : Nat} {x z : Int32} {P R : Prop} (hc : c < 216) (ha : a < 216) (hb : b < 216) (hx : x = 1 ∧ P ∨ x = 0 ∧ ¬ P) (hz : z = 1 ∧ R ∨ z = 0 ∧ ¬ R) (h1 : P ∧ R ∧ a / 36 ≤ c / 36 ∧ c / 36 ≤ b / 36 → post 1) (h0 : ¬ (P ∧ R ∧ a / 36 ≤ c / 36 ∧ c / 36 ≤ b / 36) → post 0) : wY_inBox_68 post (nI c) (nI a) (nI b) x z W L A B C D := by
  unfold wY_inBox_68
  rcases hx with ⟨rfl, p⟩ | ⟨rfl, p⟩
  · rcases hz with ⟨rfl, r⟩ | ⟨rfl, r⟩
    · refine br_f lf_10 (br_f lf_10 ⟨by decide, by decide, ?_⟩)
      refine pk_lt (c / 36) (a / 36) (fun h => h0 fun k => ?_) (fun h => ⟨by decide, by decide, ?_⟩) (lf_z36 (by omega)) (lf_z36 (by omega))
      · have := k.2.2.1
        omega
      refine pk_lt (b / 36) (c / 36) (fun h' => h0 fun k => ?_) (fun h' => h1 ⟨p, r, h, h'⟩) (lf_z36 (by omega)) (lf_z36 (by omega))
      have := k.2.2.2
      omega
    · exact br_f lf_10 (br_t rfl (h0 fun k => r k.2.1))
  · exact br_t rfl (h0 fun k => p k.1)
theorem lf_yBox27 {post : Int32 → Prop} {c a b : Nat} {x : Int32} {P : Prop} (hc : c < 216) (ha : a < 216) (hb : b < 216) (hx : x = 1 ∧ P ∨ x = 0 ∧ ¬ P) (h1 : P ∧ (a / 6 % 6 ≤ c / 6 % 6 ∧ c / 6 % 6 ≤ b / 6 % 6) ∧ a / 36 ≤ c / 36 ∧ c / 36 ≤ b / 36 → post 1) (h0 : ¬ (P ∧ (a / 6 % 6 ≤ c / 6 % 6 ∧ c / 6 % 6 ≤ b / 6 % 6) ∧ a / 36 ≤ c / 36 ∧ c / 36 ≤ b / 36) → post 0) : wY_inBox_27 post (nI c) (nI a) (nI b) x W L A B C D := by
  unfold wY_inBox_27
  refine ⟨by decide, by decide, by decide, by decide, ?_⟩
  refine pk_lt (c / 6 % 6) (a / 6 % 6) (fun h => ?_) (fun h => ⟨by decide, by decide, by decide, by decide, ?_⟩) (lf_y6 (by omega)) (lf_y6 (by omega))
  · unfold wY_inBox_67
    exact lf_yBox68 hc ha hb hx (Or.inr ⟨rfl, by omega⟩) h1 h0
  refine pk_lt (b / 6 % 6) (c / 6 % 6) (fun h' => ?_) (fun h' => ?_) (lf_y6 (by omega)) (lf_y6 (by omega))
  · unfold wY_inBox_67
    exact lf_yBox68 hc ha hb hx (Or.inr ⟨rfl, by omega⟩) h1 h0
  · exact lf_yBox68 hc ha hb hx (Or.inl ⟨rfl, by omega⟩) h1 h0
theorem lf_yBox {post : Int32 → Prop} {c a b : Nat} (hc : c < 216) (ha : a < 216) (hb : b < 216) (h1 : lf_le a c ∧ lf_le c b → post 1) (h0 : ¬ (lf_le a c ∧ lf_le c b) → post 0) : wpY_inBox post (W, L, A, B, C, D) (nI c) (nI a) (nI b) := by
  unfold wpY_inBox
  dsimp only
  refine ⟨by decide, by decide, ?_⟩
  have g1 : (a % 6 ≤ c % 6 ∧ c % 6 ≤ b % 6) ∧ (a / 6 % 6 ≤ c / 6 % 6 ∧ c / 6 % 6 ≤ b / 6 % 6) ∧ a / 36 ≤ c / 36 ∧ c / 36 ≤ b / 36 → post 1 := fun ⟨x, y, z⟩ => h1 ⟨⟨x.1, y.1, z.1⟩, x.2, y.2, z.2⟩
  have g0 : ¬ ((a % 6 ≤ c % 6 ∧ c % 6 ≤ b % 6) ∧ (a / 6 % 6 ≤ c / 6 % 6 ∧ c / 6 % 6 ≤ b / 6 % 6) ∧ a / 36 ≤ c / 36 ∧ c / 36 ≤ b / 36) → post 0 := fun k => h0 fun ⟨x, y⟩ => k ⟨⟨x.1, y.1⟩, ⟨x.2.1, y.2.1⟩, x.2.2, y.2.2⟩
  refine pk_lt (c % 6) (a % 6) (fun h => ?_) (fun h => ⟨by decide, by decide, ?_⟩) (lf_r6 (by omega)) (lf_r6 (by omega))
  · unfold wY_inBox_26
    exact lf_yBox27 hc ha hb (Or.inr ⟨rfl, by omega⟩) g1 g0
  refine pk_lt (b % 6) (c % 6) (fun h' => ?_) (fun h' => ?_) (lf_r6 (by omega)) (lf_r6 (by omega))
  · unfold wY_inBox_26
    exact lf_yBox27 hc ha hb (Or.inr ⟨rfl, by omega⟩) g1 g0
  · exact lf_yBox27 hc ha hb (Or.inl ⟨rfl, by omega⟩) g1 g0
theorem lf_yNb {post : Int32 → Prop} {c s : Nat} (hc : c < 216) (hs : s < 6) (hn : lf_m c s = none → post (-1)) (hm : ∀ d, lf_m c s = some d → post (nI d)) : wpY_beside post (W, L, A, B, C, D) (nI c) (nI s) := by
  unfold wpY_beside
  dsimp only
  have hs' : s = 0 ∨ s = 1 ∨ s = 2 ∨ s = 3 ∨ s = 4 ∨ s = 5 := by omega
  rcases hs' with rfl | rfl | rfl | rfl | rfl | rfl
  · refine br_t (by decide) ⟨by decide, ?_⟩
    refine pk_le 5 (c % 6) (fun h => hn (lf_n1f (by omega))) (fun h => ?_) rfl (lf_r6 (by omega))
    have e : nI c + 1 = nI (c + 1) := nI_add c 1
    rw [e]
    exact hm _ (lf_n1t h)
  · refine br_f (by decide) (br_t (by decide) ⟨by decide, ?_⟩)
    refine pk_le (c % 6) 0 (fun h => hn (lf_n0f (by omega))) (fun h => ?_) (lf_r6 (by omega)) rfl
    rw [lf_s1 h]
    exact hm _ (lf_n0t h)
  · refine br_f (by decide) (br_f (by decide) (br_t (by decide) ⟨by decide, by decide, ?_⟩))
    refine pk_le 5 (c / 6 % 6) (fun h => hn (lf_n3f (by omega))) (fun h => ?_) rfl (lf_y6 (by omega))
    have e : nI c + 6 = nI (c + 6) := nI_add c 6
    rw [e]
    exact hm _ (lf_n3t h)
  · refine br_f (by decide) (br_f (by decide) (br_f (by decide) (br_t (by decide) ⟨by decide, by decide, ?_⟩)))
    refine pk_le (c / 6 % 6) 0 (fun h => hn (lf_n2f (by omega))) (fun h => ?_) (lf_y6 (by omega)) rfl
    rw [lf_s6 h]
    exact hm _ (lf_n2t h)
  · refine br_f (by decide) (br_f (by decide) (br_f (by decide) (br_f (by decide) (br_t (by decide) ⟨by decide, ?_⟩))))
    refine pk_le 5 (c / 36) (fun h => hn (lf_n5f (by omega))) (fun h => ?_) rfl (lf_z36 (by omega))
    have e : nI c + 36 = nI (c + 36) := nI_add c 36
    rw [e]
    exact hm _ (lf_n5t h)
  · refine br_f (by decide) (br_f (by decide) (br_f (by decide) (br_f (by decide) (br_f (by decide) ⟨by decide, ?_⟩))))
    refine pk_le (c / 36) 0 (fun h => hn (lf_n4f (by omega))) (fun h => ?_) (lf_z36 (by omega)) rfl
    rw [lf_s36 (by omega)]
    exact hm _ (lf_n4t h)
theorem lf_ySkyL {post : Int32 → Prop} : ∀ n c : Nat, 216 - c < n → c < 300 → (lf_sky W c → post 1) → (¬ lf_sky W c → post 0) → wY_sees_2 post W L A B C D n (nI c) := by
  intro n
  induction n with
  | zero => intro c h; omega
  | succ n ih =>
    intro c hn hc h1 h0
    refine pk_le 216 c (fun h => h1 (lf_sky0 h)) fun h => ⟨lf_in h, ?_⟩
    rw [lf_c h]
    refine br_c (fun w => nm_r (nI_add c 36) ?_) fun w => h0 fun z => w ((lf_skyS h).mp z).1
    exact ih (c + 36) (by omega) (by omega) (fun k => h1 ((lf_skyS h).mpr ⟨w, k⟩)) fun k => h0 fun z => k ((lf_skyS h).mp z).2
theorem lf_ySky {post : Int32 → Prop} {c : Nat} (hc : c < 216) (h1 : lf_sky W c → post 1) (h0 : ¬ lf_sky W c → post 0) : wpY_sees post (W, L, A, B, C, D) (nI c) := ⟨217, lf_ySkyL 217 c (by omega) (by omega) h1 h0⟩
end
