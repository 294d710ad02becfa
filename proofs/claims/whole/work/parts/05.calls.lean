/-! the relation, and what the calls still need -/
/-- both hold the same count of machines, deadline, ready times and lengths (0: not held); ends and given are scratch -/
def i_Rel (_ : Nat) (u : SX) (v : SY) : Prop := ∃ (m D : Nat) (L R : Nat → Nat) (ea al ag eb : Nat → Int32),
  u = (nI m, nI D, ba_ar L, ba_ar R, ea) ∧ v = (nI m, nI D, ba_ar R, ba_hd L, al, ag, eb) ∧ ba_OK m D L R ∧ (∀ j, ¬ L j = 0 → al j = nI (L j))
theorem ba_rel {k m D : Nat} {L R : Nat → Nat} {ea al ag eb : Nat → Int32} (K : ba_OK m D L R) (hal : ∀ j, ¬ L j = 0 → al j = nI (L j)) :
    i_Rel k (nI m, nI D, ba_ar L, ba_ar R, ea) (nI m, nI D, ba_ar R, ba_hd L, al, ag, eb) := ⟨m, D, L, R, ea, al, ag, eb, rfl, rfl, K, hal⟩
theorem ba_xmo19 {m : Nat} {fd : Int32} {L : Nat → Nat} {aR ea : Nat → Int32} {i : Nat} {post : Int32 → SX → Prop} (h1 : 1 ≤ m) (h3 : m ≤ 3) (hL : ∀ j, L j ≤ 60) :
    ∀ (j n d : Nat), i < j → j ≤ 8 → j < n → d < 2 ^ 31 → post (nI (ba_sd m L i j d % m)) (nI m, fd, ba_ar L, aR, ea) →
      wX_machineOf_19 post (nI i) (nI m) fd (ba_ar L) aR ea n (nI d) (nI j + (-1)) := by
  intro j
  induction j with
  | zero => intro n d hi; omega
  | succ j ih =>
    intro n d hi hj hn hd H
    cases n with
    | zero => omega
    | succ n =>
      rw [pk_m1]
      rw [ba_sd] at H
      have hm0 : ¬ nI m = 0 := nI_ne0 (by omega) (by omega)
      have hin : vp_in (nI j) 8 := vp_in_nI (by omega) (by omega)
      have hl : ba_ar L (nI j).toNatClampNeg = nI (L j) := ba_arc L (by omega)
      have hlj := hL j
      have hq : d / m < 2 ^ 31 := Nat.lt_of_le_of_lt (Nat.div_le_self _ _) hd
      by_cases y : j ≤ i
      · rw [if_pos y] at H
        refine br_t (nI_le y (by omega)) ⟨hm0, ?_⟩
        rw [pk_rem hd (by omega) (by omega)]
        exact H
      · rw [if_neg y] at H
        refine br_f (nI_ge (by omega) (by omega)) ⟨hin, pk_le (L j) 0 (fun hz => nm_e ?_) (fun hz => ⟨hm0, nm_r (pk_div hd (by omega) (by omega)) (nm_e ?_)⟩) hl⟩
        · rw [if_pos (by omega)] at H
          exact ih n d (by omega) (by omega) (by omega) hd H
        · rw [if_neg (by omega)] at H
          exact ih n (d / m) (by omega) (by omega) (by omega) hq H
def ba_H (L : Nat → Nat) (v : Int32) : Prop := ∃ j : Nat, j < 8 ∧ v = nI j ∧ ¬ L j = 0
theorem ba_xhd_n {fm fd : Int32} {L : Nat → Nat} {aR ea : Nat → Int32} {post : Int32 → Prop} {v : Int32} (hL : ∀ j, L j ≤ 60) (hn : ¬ ba_H L v) (H : post 0) :
    wpX_isHeld post (fm, fd, ba_ar L, aR, ea) v := by
  unfold wpX_isHeld
  dsimp only
  rcases pk_ix v (n := 8) (by decide) with h | h | ⟨j, hj, rfl⟩
  · exact br_t h H
  · have h8 : (8 : Int32) ≤ v := h
    exact br_f (Int32.not_lt.mpr (Int32.le_trans (by decide) h8)) (br_t h8 H)
  · have z : L j = 0 := Classical.byContradiction (fun z => hn ⟨j, hj, rfl, z⟩)
    have hl : ba_ar L (nI j).toNatClampNeg ≤ 0 := by rw [ba_arc L (by omega), z]; decide
    exact br_f (nI_pos (by omega)) (br_f (nI_ge (b := 8) hj (by decide)) ⟨vp_in_nI hj (by decide), br_t hl H⟩)
theorem ba_xhd_y {fm fd : Int32} {L : Nat → Nat} {aR ea : Nat → Int32} {post : Int32 → Prop} {j : Nat} (hL : ∀ j, L j ≤ 60) (hj : j < 8) (z : ¬ L j = 0) (H : post 1) :
    wpX_isHeld post (fm, fd, ba_ar L, aR, ea) (nI j) := by
  unfold wpX_isHeld
  dsimp only
  have := hL j
  have hl : ¬ ba_ar L (nI j).toNatClampNeg ≤ 0 := by rw [ba_arc L (by omega)]; exact nI_nle (by omega) (by omega)
  exact br_f (nI_pos (by omega)) (br_f (nI_ge (b := 8) hj (by decide)) ⟨vp_in_nI hj (by decide), br_f hl H⟩)
theorem ba_yhd_n {L : Nat → Nat} {v : Int32} {A B : Prop} (hn : ¬ ba_H L v) (H : A) :
    (v < 0 → A) ∧ (¬ v < 0 → ((7 < v → A) ∧ (¬ 7 < v → (vp_in v 8 ∧ ((ba_hd L v.toNatClampNeg = 0 → A) ∧ (¬ ba_hd L v.toNatClampNeg = 0 → B)))))) := by
  rcases pk_ix v (n := 8) (by decide) with h | h | ⟨j, hj, rfl⟩
  · exact br_t h H
  · have h8 : (8 : Int32) ≤ v := h
    exact br_f (Int32.not_lt.mpr (Int32.le_trans (by decide) h8)) (br_t (Int32.lt_of_lt_of_le (by decide) h8) H)
  · have z : L j = 0 := Classical.byContradiction (fun z => hn ⟨j, hj, rfl, z⟩)
    exact br_f (nI_pos (by omega)) (br_f (nI_nlt (b := j) (a := 7) (by omega) (by decide)) ⟨vp_in_nI hj (by decide), br_t (ba_hd_z (by omega) z) H⟩)
theorem ba_yhd_y {L : Nat → Nat} {j : Nat} {A B : Prop} (hj : j < 8) (z : ¬ L j = 0) (H : B) :
    (nI j < 0 → A) ∧ (¬ nI j < 0 → ((7 < nI j → A) ∧ (¬ 7 < nI j → (vp_in (nI j) 8 ∧ ((ba_hd L (nI j).toNatClampNeg = 0 → A) ∧ (¬ ba_hd L (nI j).toNatClampNeg = 0 → B)))))) :=
  br_f (nI_pos (by omega)) (br_f (nI_nlt (b := j) (a := 7) (by omega) (by decide)) ⟨vp_in_nI hj (by decide), br_f (ba_hd_nz (by omega) z) H⟩)
def ba_I (m : Nat) (v : Int32) : Prop := ∃ j : Nat, j < m ∧ v = nI j
theorem ba_xmc_n {m : Nat} {fd : Int32} {aL aR ea : Nat → Int32} {post : Int32 → Prop} {v : Int32} (h3 : m ≤ 3) (hn : ¬ ba_I m v) (H : post 0) :
    wpX_isMachine post (nI m, fd, aL, aR, ea) v := by
  unfold wpX_isMachine
  dsimp only
  rcases pk_ix v (n := m) (by omega) with h | h | h
  · exact br_t h H
  · exact br_f (Int32.not_lt.mpr (Int32.le_trans (nI_pos' (by omega)) h)) (br_t h H)
  · exact absurd h hn
theorem ba_xmc_y {m j : Nat} {fd : Int32} {aL aR ea : Nat → Int32} {post : Int32 → Prop} (h3 : m ≤ 3) (hj : j < m) (H : post 1) :
    wpX_isMachine post (nI m, fd, aL, aR, ea) (nI j) := by
  unfold wpX_isMachine
  dsimp only
  exact br_f (nI_pos (by omega)) (br_f (nI_ge hj (by omega)) H)
theorem ba_ymc_n {m : Nat} {v : Int32} {A B : Prop} (h3 : m ≤ 3) (hn : ¬ ba_I m v) (H : A) : (v < 0 → A) ∧ (¬ v < 0 → ((v < nI m → B) ∧ (¬ v < nI m → A))) := by
  rcases pk_ix v (n := m) (by omega) with h | h | h
  · exact br_t h H
  · exact br_f (Int32.not_lt.mpr (Int32.le_trans (nI_pos' (by omega)) h)) (br_f (Int32.not_lt.mpr h) H)
  · exact absurd h hn
theorem ba_ymc_y {m j : Nat} {A B : Prop} (h3 : m ≤ 3) (hj : j < m) (H : B) : (nI j < 0 → A) ∧ (¬ nI j < 0 → ((nI j < nI m → B) ∧ (¬ nI j < nI m → A))) :=
  br_f (nI_pos (by omega)) (br_t (nI_lt hj (by omega)) H)
theorem ba_ycl {P : Int32 → Prop} (v : Int32) (c : Nat) (H : P (nI (ba_cl v c))) : (0 ≤ v → ((v ≤ nI c → P v) ∧ (¬ v ≤ nI c → P (nI c)))) ∧ (¬ 0 ≤ v → P 0) := by
  unfold ba_cl at H
  by_cases h : v < 0
  · rw [if_pos h] at H
    exact br_f (Int32.not_le.mpr h) H
  · rw [if_neg h] at H
    by_cases h2 : v ≤ nI c
    · rw [if_pos h2] at H
      obtain ⟨j, hj, rfl⟩ := nI_of h
      rw [nI_clamp hj] at H
      exact br_t (Int32.not_lt.mp h) (br_t h2 H)
    · rw [if_neg h2] at H
      exact br_t (Int32.not_lt.mp h) (br_f h2 H)
theorem ba_b1 : vp_nar .boolean 1 = 1 := by decide +kernel
theorem ba_b0 : vp_nar .boolean 0 = 0 := by decide +kernel
theorem ba_yof38 {fm fd x1 : Int32} {L : Nat → Nat} {aR al ag eb : Nat → Int32} {f : Nat} {post : Int32 → SY → Prop} (hf : f < 8) (z : L f = 0) (hb : ∀ i, i < f → ¬ L i = 0)
    (H : post (nI f) (fm, fd, aR, upd (ba_hd L) f 1, upd al f x1, ag, eb)) :
    ∀ (t j n : Nat), j + t = f → t < n → wY_offer_38 post x1 fm fd aR (ba_hd L) al ag eb n (nI j) := by
  intro t
  induction t with
  | zero =>
    intro j n hj hn
    cases n with
    | zero => omega
    | succ n =>
      have : j = f := by omega
      subst this
      have hin : vp_in (nI j) 8 := vp_in_nI (by omega) (by omega)
      have hc : (nI j).toNatClampNeg = j := nI_clamp (by omega)
      have e1 : upd (ba_hd L) (nI j).toNatClampNeg (vp_nar .boolean 1) = upd (ba_hd L) j 1 := by rw [hc, ba_b1]
      have e2 : upd al (nI j).toNatClampNeg x1 = upd al j x1 := by rw [hc]
      exact br_f (nI_ge (b := 8) hf (by decide)) ⟨hin, br_t (ba_hd_z (by omega) z) ⟨hin, nm_r e1 ⟨hin, nm_r e2 H⟩⟩⟩
  | succ t ih =>
    intro j n hj hn
    cases n with
    | zero => omega
    | succ n =>
      have hin : vp_in (nI j) 8 := vp_in_nI (by omega) (by omega)
      exact br_f (nI_ge (b := 8) (by omega) (by decide)) ⟨hin, br_f (ba_hd_nz (by omega) (hb j (by omega))) (nm_r (nI_1 j) (ih (j + 1) n (by omega) (by omega)))⟩
