theorem ra_D0 (g m row : Nat) : ra_D (fun _ => 0) g m row = 0 := by
  unfold ra_D ra_5 ra_3
  split
  · split
    · dsimp only
      decide
    · rfl
  · split
    · dsimp only
      decide
    · rfl
theorem ra_szg (g : Nat) : 24 ≤ ra_sz g := by
  unfold ra_sz
  split <;> omega
def i_Rel (k : Nat) (u : SX) (v : SY) : Prop := ∃ (g : Nat) (xr xb xf xj xk xv xp yd : Int32) (c sg B : Nat → Int32), u = (xr, xb, nI g, xf, xj, xk, xv, xp, c, sg) ∧ v = (yd, xb, nI g, xf, B) ∧ g ≤ 6 ∧ (xf = -1 ∨ ∃ f, f < 5 ∧ xf = nI f) ∧ ((xr = 1 ∧ yd = 0 ∧ xj = 0 ∧ ra_Inv (fun _ _ => True) B g xf c) ∨ (xr = 0 ∧ yd = 1 ∧ ra_dn g xf xj xk xv xp c sg B))
theorem i_up {k : Nat} {u : SX} {v : SY} (h : i_Rel k u v) : i_Rel (k + 5) u v := h
theorem i_vc0 : wpX_init (fun u => wpY_init (fun v => i_Rel 0 u v)) := by
  unfold wpX_init wpY_init
  exact ⟨0, 1, 0, -1, 0, 0, 0, 0, 0, _, _, _, rfl, rfl, by omega, Or.inl rfl, Or.inl ⟨rfl, rfl, rfl, fun row m _ _ _ _ => (ra_D0 0 m row).symm⟩⟩
theorem ra_Up {k g : Nat} {xb xf xk xv xp : Int32} {c sg B : Nat → Int32} (hg : g ≤ 6) (hf : xf = -1 ∨ ∃ f, f < 5 ∧ xf = nI f) (hI : ra_Inv (fun _ _ => True) B g xf c) : i_Rel k (1, xb, nI g, xf, 0, xk, xv, xp, c, sg) (0, xb, nI g, xf, B) :=
  ⟨g, 1, xb, xf, 0, xk, xv, xp, 0, c, sg, B, rfl, rfl, hg, hf, Or.inl ⟨rfl, rfl, rfl, hI⟩⟩
theorem ra_Dn {k g : Nat} {xb xf xj xk xv xp : Int32} {c sg B : Nat → Int32} (hg : g ≤ 6) (hf : xf = -1 ∨ ∃ f, f < 5 ∧ xf = nI f) (hd : ra_dn g xf xj xk xv xp c sg B) : i_Rel k (0, xb, nI g, xf, xj, xk, xv, xp, c, sg) (1, xb, nI g, xf, B) :=
  ⟨g, 0, xb, xf, xj, xk, xv, xp, 1, c, sg, B, rfl, rfl, hg, hf, Or.inr ⟨rfl, rfl, hd⟩⟩
theorem i_vc_up {k : Nat} {u : SX} {v : SY} (I : i_Rel k u v) (hk : k + 5 ≤ 2560) : wpX_up (fun r => wpY_up (fun r' => r' = r ∧ i_Rel (k + 5) u v) v) u := by
  have J := i_up I
  obtain ⟨g, xr, xb, xf, xj, xk, xv, xp, yd, c, sg, B, rfl, rfl, hg, hf, ⟨rfl, rfl, rfl, hI⟩ | ⟨rfl, rfl, hd⟩⟩ := I
  · unfold wpX_up wpY_up
    exact br_f (by decide) (br_t rfl ⟨rfl, J⟩)
  · unfold wpX_up wpY_up
    exact br_t rfl (br_f (by decide) ⟨rfl, J⟩)
theorem i_vc_size {k : Nat} {u : SX} {v : SY} (I : i_Rel k u v) (hk : k + 5 ≤ 2560) : wpX_size (fun r => wpY_size (fun r' => r' = r ∧ i_Rel (k + 5) u v) v) u := by
  have J := i_up I
  obtain ⟨g, xr, xb, xf, xj, xk, xv, xp, yd, c, sg, B, rfl, rfl, hg, hf, _⟩ := I
  exact ra_size hg (ra_sizeY hg ⟨rfl, J⟩)
theorem i_vc_members {k : Nat} {u : SX} {v : SY} (I : i_Rel k u v) (hk : k + 5 ≤ 2560) : wpX_members (fun r => wpY_members (fun r' => r' = r ∧ i_Rel (k + 5) u v) v) u := by
  have J := i_up I
  obtain ⟨g, xr, xb, xf, xj, xk, xv, xp, yd, c, sg, B, rfl, rfl, hg, hf, _⟩ := I
  unfold wpX_members wpY_members
  exact br_c (fun e => br_t e ⟨rfl, J⟩) (fun e => br_f e ⟨rfl, J⟩)
theorem i_vc_failed {k : Nat} {u : SX} {v : SY} (I : i_Rel k u v) (hk : k + 5 ≤ 2560) : wpX_failed (fun r => wpY_failed (fun r' => r' = r ∧ i_Rel (k + 5) u v) v) u := by
  have J := i_up I
  obtain ⟨g, xr, xb, xf, xj, xk, xv, xp, yd, c, sg, B, rfl, rfl, hg, hf, _⟩ := I
  exact ⟨rfl, J⟩
theorem i_vc_growth {k : Nat} {u : SX} {v : SY} (I : i_Rel k u v) (hk : k + 5 ≤ 2560) : wpX_growth (fun r => wpY_growth (fun r' => r' = r ∧ i_Rel (k + 5) u v) v) u := by
  have J := i_up I
  obtain ⟨g, xr, xb, xf, xj, xk, xv, xp, yd, c, sg, B, rfl, rfl, hg, hf, _⟩ := I
  unfold wpX_growth wpY_growth
  exact br_c (fun e => br_t e ⟨rfl, J⟩) (fun e => ra_isComplete hg (fun e6 => br_f (by decide) (br_f e (pk_eq g 6 (fun _ => ⟨rfl, J⟩) (fun z => absurd e6 z)))) (fun e6 => br_t rfl (br_f e (pk_eq g 6 (fun z => absurd z e6) (fun _ => ⟨rfl, J⟩)))))
theorem i_vc_groups {k : Nat} {u : SX} {v : SY} (I : i_Rel k u v) (hk : k + 5 ≤ 2560) : wpX_groups (fun r => wpY_groups (fun r' => r' = r ∧ i_Rel (k + 5) u v) v) u := by
  have J := i_up I
  obtain ⟨g, xr, xb, xf, xj, xk, xv, xp, yd, c, sg, B, rfl, rfl, hg, hf, _⟩ := I
  exact ⟨rfl, J⟩
theorem i_vc_read {k : Nat} {u : SX} {v : SY} (I : i_Rel k u v) (hk : k + 5 ≤ 2560) (v1 : Int32) : wpX_read (fun r => wpY_read (fun r' => r' = r ∧ i_Rel (k + 5) u v) v v1) u v1 := by
  have J := i_up I
  obtain ⟨g, xr, xb, xf, xj, xk, xv, xp, yd, c, sg, B, rfl, rfl, hg, hf, ⟨rfl, rfl, rfl, hI⟩ | ⟨rfl, rfl, hd⟩⟩ := I
  · have h48 := ra_szl g
    unfold wpX_read wpY_read
    refine br_f (by decide) ?_
    rcases pk_ix v1 (n := ra_sz g) (by omega) with h | h | ⟨b, hb, rfl⟩
    · exact ra_isBlockN hg (Or.inl h) (br_t rfl (br_t rfl (ra_noBlockN hg (Or.inl h) (br_f (by decide) ⟨rfl, J⟩))))
    · exact ra_isBlockN hg (Or.inr h) (br_t rfl (br_t rfl (ra_noBlockN hg (Or.inr h) (br_f (by decide) ⟨rfl, J⟩))))
    · refine ra_isBlockY hg hb (br_f (by decide) (ra_recallBlock hg hb (br_t rfl (ra_noBlockY hg hb (br_t rfl ⟨pk_in b 48 (by omega), ?_, J⟩)))))
      rw [pk_cl b, ra_recB hg hb hI (fun _ => trivial)]
  · unfold wpX_read wpY_read
    exact br_t rfl (br_f (by decide) ⟨rfl, J⟩)
theorem i_vc_sum {k : Nat} {u : SX} {v : SY} (I : i_Rel k u v) (hk : k + 5 ≤ 2560) : wpX_sum (fun r => wpY_sum (fun r' => r' = r ∧ i_Rel (k + 5) u v) v) u := by
  have J := i_up I
  obtain ⟨g, xr, xb, xf, xj, xk, xv, xp, yd, c, sg, B, rfl, rfl, hg, hf, ⟨rfl, rfl, rfl, hI⟩ | ⟨rfl, rfl, hd⟩⟩ := I
  · unfold wpX_sum wpY_sum
    exact br_f (by decide) (ra_size hg (ra_sumX hg hI (br_t rfl (ra_sumY hg ⟨rfl, J⟩))))
  · unfold wpX_sum wpY_sum
    exact br_t rfl (br_f (by decide) ⟨rfl, J⟩)
theorem i_vc_write {k : Nat} {u : SX} {v : SY} (I : i_Rel k u v) (hk : k + 5 ≤ 2560) (v1 : Int32) (v2 : Int32) : wpX_write (fun r u' => wpY_write (fun r' v' => r' = r ∧ i_Rel (k + 5) u' v') v v1 v2) u v1 v2 := by
  have J := i_up I
  obtain ⟨g, xr, xb, xf, xj, xk, xv, xp, yd, c, sg, B, rfl, rfl, hg, hf, ⟨rfl, rfl, rfl, hI⟩ | ⟨rfl, rfl, hd⟩⟩ := I
  · have h48 := ra_szl g
    unfold wpX_write wpY_write
    refine br_f (by decide) ?_
    rcases pk_ix v1 (n := ra_sz g) (by omega) with h | h | ⟨b, hb, rfl⟩
    · exact ra_isBlockN hg (Or.inl h) (br_t rfl (br_t rfl (ra_noBlockN hg (Or.inl h) (br_f (by decide) ⟨rfl, J⟩))))
    · exact ra_isBlockN hg (Or.inr h) (br_t rfl (br_t rfl (ra_noBlockN hg (Or.inr h) (br_f (by decide) ⟨rfl, J⟩))))
    · refine ra_isBlockY hg hb (br_f (by decide) (ra_write hg hb hI (fun p c' hI' => br_t rfl (ra_noBlockY hg hb (br_t rfl ⟨pk_in b 48 (by omega), ?_⟩)))))
      rw [pk_cl b]
      exact nm_e ⟨rfl, ra_Up hg hf hI'⟩
  · unfold wpX_write wpY_write
    exact br_t rfl (br_f (by decide) ⟨rfl, J⟩)
theorem i_vc_fill {k : Nat} {u : SX} {v : SY} (I : i_Rel k u v) (hk : k + 5 ≤ 2560) (v1 : Int32) (v2 : Int32) (v3 : Int32) (v4 : Int32) : wpX_fill (fun r u' => wpY_fill (fun r' v' => r' = r ∧ i_Rel (k + 5) u' v') v v1 v2 v3 v4) u v1 v2 v3 v4 := by
  have J := i_up I
  obtain ⟨g, xr, xb, xf, xj, xk, xv, xp, yd, c, sg, B, rfl, rfl, hg, hf, ⟨rfl, rfl, rfl, hI⟩ | ⟨rfl, rfl, hd⟩⟩ := I
  · have h48 := ra_szl g
    have h24 := ra_szg g
    unfold wpX_fill wpY_fill
    refine br_f (by decide) ?_
    refine br_c (fun e1 => br_t rfl (br_t e1 ⟨rfl, J⟩)) (fun e1 => ?_)
    refine br_c (fun e2 => ?_) (fun e2 => br_t rfl (br_f e1 (br_f e2 ⟨rfl, J⟩)))
    refine br_c (fun e3 => br_t rfl (br_f e1 (br_t e2 (br_t e3 ⟨rfl, J⟩)))) (fun e3 => ?_)
    refine ra_size hg (br_c (fun e4 => ?_) (fun e4 => br_t rfl (br_f e1 (br_t e2 (br_f e3 (ra_sizeY hg (br_f e4 ⟨rfl, J⟩)))))))
    obtain ⟨cnt, hc, rfl⟩ := nI_of2 (x := v2) (M := 24) (n := 24) (by decide) (fun z => e1 (Int32.lt_trans z (by decide))) e2
    obtain ⟨b, hb, rfl⟩ := nI_of e3
    have hbc : b + cnt ≤ ra_sz g := by
      have e5 := e4
      rw [pk_sub (by omega)] at e5
      have := (nI_leI (by omega) (by omega)).mp e5
      omega
    have q0 : v3 + v4 * nI 0 = v3 := by rw [nI_0, Int32.mul_zero, Int32.add_zero]
    refine ⟨cnt + 1, ?_⟩
    have Z := ra_fillX (xr := 1) (xb := xb) (xf := xf) (sg := sg) (B := B) (g := g) (b := b) (cnt := cnt) (v := v3) (st := v4) (post := fun r u' => wpY_fill (fun r' v' => r' = r ∧ i_Rel (k + 5) u' v') (0, xb, nI g, xf, B) (nI b) (nI cnt) v3 v4) hg hbc (fun k w p c' hI' => by
      unfold wpY_fill
      exact br_t rfl (br_f e1 (br_t e2 (br_f e3 (ra_sizeY hg (br_t e4 (ra_fillY (by omega) ⟨rfl, ra_Up hg hf hI'⟩))))))) cnt 0 (by omega) xk xv xp c (by rw [ra_fB0]; exact hI)
    rw [q0] at Z
    exact Z
  · unfold wpX_fill wpY_fill
    exact br_t rfl (br_f (by decide) ⟨rfl, J⟩)
theorem ra_lostN {f : Nat} (h : f < 5) : ¬ nI f < 0 := nI_pos (by omega)
theorem i_vc_writeCrash {k : Nat} {u : SX} {v : SY} (I : i_Rel k u v) (hk : k + 5 ≤ 2560) (v1 : Int32) (v2 : Int32) (v3 : Int32) : wpX_writeCrash (fun r u' => wpY_writeCrash (fun r' v' => r' = r ∧ i_Rel (k + 5) u' v') v v1 v2 v3) u v1 v2 v3 := by
  have J := i_up I
  obtain ⟨g, xr, xb, xf, xj, xk, xv, xp, yd, c, sg, B, rfl, rfl, hg, hf, ⟨rfl, rfl, rfl, hI⟩ | ⟨rfl, rfl, hd⟩⟩ := I
  · have h48 := ra_szl g
    unfold wpX_writeCrash wpY_writeCrash
    refine br_f (by decide) ?_
    rcases pk_ix v1 (n := ra_sz g) (by omega) with h | h | ⟨b, hb, rfl⟩
    · exact ra_isBlockN hg (Or.inl h) (br_t rfl (br_t rfl (ra_noBlockN hg (Or.inl h) (br_f (by decide) ⟨rfl, J⟩))))
    · exact ra_isBlockN hg (Or.inr h) (br_t rfl (br_t rfl (ra_noBlockN hg (Or.inr h) (br_f (by decide) ⟨rfl, J⟩))))
    · refine ra_isBlockY hg hb (br_f (by decide) ?_)
      refine br_c (fun e1 => br_t rfl (ra_noBlockY hg hb (br_t rfl (br_t e1 ⟨rfl, J⟩)))) (fun e1 => ?_)
      refine br_c (fun e2 => ?_) (fun e2 => br_t rfl (ra_noBlockY hg hb (br_t rfl (br_f e1 (br_f e2 ⟨rfl, J⟩)))))
      rcases hf with rfl | ⟨f, hf5, rfl⟩
      · refine br_t rfl ?_
        have hv : b < 48 := by omega
        obtain ⟨p, hp, rfl⟩ := nI_of2 (x := v3) (M := 3) (n := 3) (by decide) e1 e2
        have hpc : p = 0 ∨ p = 1 ∨ p = 2 ∨ p = 3 := by omega
        have W1 := ra_wr1 (v := v2) hg hb hI
        have W2 := ra_wr2 hg hb pk_us.symm W1
        have hm : nI (ra_par g b) ≠ -1 := ra_m1 (by have := ra_bf hg hb; omega)
        have hl := ra_lp (v := v2) hg hb hI hm
        have W3 := ra_wr3 hg hb (fun _ => hl) W2
        rcases hpc with rfl | rfl | rfl | rfl
        · exact ra_wu0 (br_t rfl (ra_noBlockY hg hb (br_t rfl (br_f e1 (br_t e2 (br_t (by decide) (br_t (by decide) ⟨rfl, ra_Dn hg (Or.inl rfl) (Or.inl ⟨rfl, hI⟩)⟩)))))))
        · refine ra_wu1 hg hb (br_t rfl (ra_noBlockY hg hb (br_t rfl (br_f e1 (br_t e2 (br_t (by decide) (br_f (by decide) ⟨pk_in b 48 hv, ?_⟩)))))))
          rw [pk_cl b]
          exact nm_e ⟨rfl, ra_Dn hg (Or.inl rfl) (Or.inr (Or.inl ⟨rfl, b, rfl, hb, pk_us.symm, hl, W1⟩))⟩
        · refine ra_wu2 hg hb (br_t rfl (ra_noBlockY hg hb (br_t rfl (br_f e1 (br_t e2 (br_t (by decide) (br_f (by decide) ⟨pk_in b 48 hv, ?_⟩)))))))
          rw [pk_cl b]
          exact nm_e ⟨rfl, ra_Dn hg (Or.inl rfl) (Or.inr (Or.inl ⟨rfl, b, rfl, hb, pk_us.symm, hl, ra_IR W2 (fun r m _ _ z e => (z e).2)⟩))⟩
        · refine ra_wu3 hg hb (br_t rfl (ra_noBlockY hg hb (br_t rfl (br_f e1 (br_t e2 (br_t (by decide) (br_f (by decide) ⟨pk_in b 48 hv, ?_⟩)))))))
          rw [pk_cl b]
          exact nm_e ⟨rfl, ra_Dn hg (Or.inl rfl) (Or.inr (Or.inl ⟨rfl, b, rfl, hb, pk_us.symm, hl, ra_IR W3 (fun r m _ _ z => trivial)⟩))⟩
      · exact br_f (ra_m1 (by omega)) (br_t rfl (ra_noBlockY hg hb (br_t rfl (br_f e1 (br_t e2 (br_f (ra_lostN hf5) ⟨rfl, J⟩))))))
  · unfold wpX_writeCrash wpY_writeCrash
    exact br_t rfl (br_f (by decide) ⟨rfl, J⟩)
theorem i_vc_begin {k : Nat} {u : SX} {v : SY} (I : i_Rel k u v) (hk : k + 5 ≤ 2560) : wpX_begin (fun r u' => wpY_begin (fun r' v' => r' = r ∧ i_Rel (k + 5) u' v') v) u := by
  have J := i_up I
  obtain ⟨g, xr, xb, xf, xj, xk, xv, xp, yd, c, sg, B, rfl, rfl, hg, hf, ⟨rfl, rfl, rfl, hI⟩ | ⟨rfl, rfl, hd⟩⟩ := I
  · unfold wpX_begin wpY_begin
    refine br_f (by decide) (br_c (fun e => ?_) (fun e => br_t rfl (br_f e ⟨rfl, J⟩)))
    rcases hf with rfl | ⟨f, hf5, rfl⟩
    · exact br_t rfl (br_t rfl (br_t e (br_t (by decide) ⟨rfl, ra_Up hg (Or.inl rfl) hI⟩)))
    · exact br_f (ra_m1 (by omega)) (br_t rfl (br_t e (br_f (ra_lostN hf5) ⟨rfl, J⟩)))
  · unfold wpX_begin wpY_begin
    exact br_t rfl (br_f (by decide) ⟨rfl, J⟩)
section
variable {xr xb xm xf xj xk xv xp yd yb yl : Int32} {c sg B : Nat → Int32}
theorem ra_isGrowingY {post : Int32 → Prop} {g : Nat} (hg : g < 6) (hb : ¬ xb = 0) (h : post 1) : wpX_isGrowing post (xr, xb, nI g, xf, xj, xk, xv, xp, c, sg) := by
  unfold wpX_isGrowing
  exact br_f hb (ra_isComplete (by omega) (fun e => by omega) (fun _ => br_t rfl h))
theorem ra_isGrowingN {post : Int32 → Prop} {g : Nat} (hg : g ≤ 6) (hb : xb = 0 ∨ g = 6) (h : post 0) : wpX_isGrowing post (xr, xb, nI g, xf, xj, xk, xv, xp, c, sg) := by
  unfold wpX_isGrowing
  exact br_c (fun _ => h) (fun e => ra_isComplete hg (fun _ => br_f (by decide) h) (fun z => absurd (hb.resolve_left e) z))
theorem ra_growthY {post : Int32 → Prop} {g : Nat} (hg : g < 6) (hb : ¬ yb = 0) (h : post 1) : wpY_growth post (yd, yb, nI g, yl, B) := by
  unfold wpY_growth
  exact br_f hb (pk_eq g 6 (fun e => by omega) (fun _ => h))
theorem ra_growthN {post : Int32 → Prop} {g : Nat} (hg : g ≤ 6) (hb : yb = 0 ∨ g = 6) (h0 : post 0) (h2 : post 2) : wpY_growth post (yd, yb, nI g, yl, B) := by
  unfold wpY_growth
  exact br_c (fun _ => h0) (fun e => pk_eq g 6 (fun _ => h2) (fun z => absurd (hb.resolve_left e) z))
end
theorem i_vc_step {k : Nat} {u : SX} {v : SY} (I : i_Rel k u v) (hk : k + 5 ≤ 2560) : wpX_step (fun r u' => wpY_step (fun r' v' => r' = r ∧ i_Rel (k + 5) u' v') v) u := by
  have J := i_up I
  obtain ⟨g, xr, xb, xf, xj, xk, xv, xp, yd, c, sg, B, rfl, rfl, hg, hf, ⟨rfl, rfl, rfl, hI⟩ | ⟨rfl, rfl, hd⟩⟩ := I
  · unfold wpX_step wpY_step
    refine br_f (by decide) ?_
    by_cases e : xb = 0 ∨ g = 6
    · exact ra_isGrowingN hg e (br_t rfl (br_t rfl (ra_growthN hg e (br_f (by decide) ⟨rfl, J⟩) (br_f (by decide) ⟨rfl, J⟩))))
    · have e1 : ¬ xb = 0 := fun z => e (Or.inl z)
      have e2 : g < 6 := by omega
      exact ra_isGrowingY e2 e1 (br_f (by decide) (ra_mu5 e2 hI (fun s c' hI' => br_t rfl (ra_growthY e2 e1 (br_t rfl (ra_moveY e2 ⟨rfl, ra_Up (by omega) hf hI'⟩))))))
  · unfold wpX_step wpY_step
    exact br_t rfl (br_f (by decide) ⟨rfl, J⟩)
theorem i_vc_stepCrash {k : Nat} {u : SX} {v : SY} (I : i_Rel k u v) (hk : k + 5 ≤ 2560) (v1 : Int32) : wpX_stepCrash (fun r u' => wpY_stepCrash (fun r' v' => r' = r ∧ i_Rel (k + 5) u' v') v v1) u v1 := by
  have J := i_up I
  obtain ⟨g, xr, xb, xf, xj, xk, xv, xp, yd, c, sg, B, rfl, rfl, hg, hf, ⟨rfl, rfl, rfl, hI⟩ | ⟨rfl, rfl, hd⟩⟩ := I
  · unfold wpX_stepCrash wpY_stepCrash
    refine br_f (by decide) ?_
    by_cases e : xb = 0 ∨ g = 6
    · exact ra_isGrowingN hg e (br_t rfl (br_t rfl (ra_growthN hg e (br_f (by decide) ⟨rfl, J⟩) (br_f (by decide) ⟨rfl, J⟩))))
    · have e1 : ¬ xb = 0 := fun z => e (Or.inl z)
      have e2 : g < 6 := by omega
      refine ra_isGrowingY e2 e1 (br_f (by decide) ?_)
      refine br_c (fun a1 => br_t rfl (ra_growthY e2 e1 (br_t rfl (br_t a1 ⟨rfl, J⟩)))) (fun a1 => ?_)
      refine br_c (fun a2 => ?_) (fun a2 => br_t rfl (ra_growthY e2 e1 (br_t rfl (br_f a1 (br_f a2 ⟨rfl, J⟩)))))
      obtain ⟨p, hp, rfl⟩ := nI_of2 (x := v1) (M := 4) (n := 4) (by decide) a1 a2
      have hpc : p = 0 ∨ p = 1 ∨ p = 2 ∨ p = 3 ∨ p = 4 := by omega
      rcases hpc with rfl | rfl | rfl | rfl | rfl
      · exact ra_mu0 (br_t rfl (ra_growthY e2 e1 (br_t rfl (br_f a1 (br_t a2 (br_f (by decide) ⟨rfl, ra_Dn hg hf (Or.inl ⟨rfl, hI⟩)⟩))))))
      · exact ra_mu1 e2 hI (fun s c' hs hI' => br_t rfl (ra_growthY e2 e1 (br_t rfl (br_f a1 (br_t a2 (br_f (by decide) ⟨rfl, ra_Dn hg hf (Or.inr (Or.inr (Or.inl ⟨rfl, e2, hs, hI'⟩)))⟩))))))
      · exact ra_mu2 e2 hI (fun s c' hs hI' => br_t rfl (ra_growthY e2 e1 (br_t rfl (br_f a1 (br_t a2 (br_f (by decide) ⟨rfl, ra_Dn hg hf (Or.inr (Or.inr (Or.inl ⟨rfl, e2, hs, hI'⟩)))⟩))))))
      · exact ra_mu3 e2 hI (fun s c' hs hI' => br_t rfl (ra_growthY e2 e1 (br_t rfl (br_f a1 (br_t a2 (br_f (by decide) ⟨rfl, ra_Dn hg hf (Or.inr (Or.inr (Or.inl ⟨rfl, e2, hs, hI'⟩)))⟩))))))
      · exact ra_mu4 e2 hI (fun s c' hI' => br_t rfl (ra_growthY e2 e1 (br_t rfl (br_f a1 (br_t a2 (br_t rfl (ra_moveY e2 ⟨rfl, ra_Dn (by omega) hf (Or.inr (Or.inr (Or.inr ⟨rfl, fun z b h1 h2 => ra_mvBhi z h1 h2, hI'⟩)))⟩)))))))
  · unfold wpX_stepCrash wpY_stepCrash
    exact br_t rfl (br_f (by decide) ⟨rfl, J⟩)
theorem i_vc_crash {k : Nat} {u : SX} {v : SY} (I : i_Rel k u v) (hk : k + 5 ≤ 2560) : wpX_crash (fun r u' => wpY_crash (fun r' v' => r' = r ∧ i_Rel (k + 5) u' v') v) u := by
  have J := i_up I
  obtain ⟨g, xr, xb, xf, xj, xk, xv, xp, yd, c, sg, B, rfl, rfl, hg, hf, ⟨rfl, rfl, rfl, hI⟩ | ⟨rfl, rfl, hd⟩⟩ := I
  · unfold wpX_crash wpY_crash
    exact br_f (by decide) (br_t rfl ⟨rfl, ra_Dn hg hf (Or.inl ⟨rfl, hI⟩)⟩)
  · unfold wpX_crash wpY_crash
    exact br_t rfl (br_f (by decide) ⟨rfl, J⟩)
theorem i_vc_mount {k : Nat} {u : SX} {v : SY} (I : i_Rel k u v) (hk : k + 5 ≤ 2560) : wpX_mount (fun r u' => wpY_mount (fun r' v' => r' = r ∧ i_Rel (k + 5) u' v') v) u := by
  have J := i_up I
  obtain ⟨g, xr, xb, xf, xj, xk, xv, xp, yd, c, sg, B, rfl, rfl, hg, hf, ⟨rfl, rfl, rfl, hI⟩ | ⟨rfl, rfl, hd⟩⟩ := I
  · unfold wpX_mount wpY_mount
    exact br_f (by decide) (br_t rfl ⟨rfl, J⟩)
  · unfold wpX_mount wpY_mount
    exact br_t rfl (ra_recover hg hd (fun k' v' p' c' hI' => br_f (by decide) ⟨rfl, ra_Up hg hf hI'⟩))
theorem i_vc_fail {k : Nat} {u : SX} {v : SY} (I : i_Rel k u v) (hk : k + 5 ≤ 2560) (v1 : Int32) : wpX_fail (fun r u' => wpY_fail (fun r' v' => r' = r ∧ i_Rel (k + 5) u' v') v v1) u v1 := by
  have J := i_up I
  obtain ⟨g, xr, xb, xf, xj, xk, xv, xp, yd, c, sg, B, rfl, rfl, hg, hf, ⟨rfl, rfl, rfl, hI⟩ | ⟨rfl, rfl, hd⟩⟩ := I
  · unfold wpX_fail wpY_fail wpX_members wpY_members
    refine br_f (by decide) (br_c (fun a1 => br_t rfl (br_t a1 ⟨rfl, J⟩)) (fun a1 => ?_))
    obtain ⟨m, _, rfl⟩ := nI_of a1
    refine br_c (fun e => ?_) (fun e => ?_)
    · refine pk_lt m 3 (fun hm => ?_) (fun hm => br_t rfl (br_f a1 (br_t e (pk_lt m 3 (fun z => by omega) (fun _ => ⟨rfl, J⟩)))))
      rcases hf with rfl | ⟨f, hf5, rfl⟩
      · exact br_t rfl (ra_failL (by omega) hI (fun c' hI' => br_t rfl (br_f a1 (br_t e (pk_lt m 3 (fun _ => br_t (by decide) ⟨rfl, ra_Up hg (Or.inr ⟨m, by omega, rfl⟩) hI'⟩) (fun z => by omega))))))
      · exact br_f (ra_m1 (by omega)) (br_t rfl (br_f a1 (br_t e (pk_lt m 3 (fun _ => br_f (ra_lostN hf5) ⟨rfl, J⟩) (fun z => by omega)))))
    · refine pk_lt m 5 (fun hm => ?_) (fun hm => br_t rfl (br_f a1 (br_f e (pk_lt m 5 (fun z => by omega) (fun _ => ⟨rfl, J⟩)))))
      rcases hf with rfl | ⟨f, hf5, rfl⟩
      · exact br_t rfl (ra_failL (by omega) hI (fun c' hI' => br_t rfl (br_f a1 (br_f e (pk_lt m 5 (fun _ => br_t (by decide) ⟨rfl, ra_Up hg (Or.inr ⟨m, by omega, rfl⟩) hI'⟩) (fun z => by omega))))))
      · exact br_f (ra_m1 (by omega)) (br_t rfl (br_f a1 (br_f e (pk_lt m 5 (fun _ => br_f (ra_lostN hf5) ⟨rfl, J⟩) (fun z => by omega)))))
  · unfold wpX_fail wpY_fail
    exact br_t rfl (br_f (by decide) ⟨rfl, J⟩)
theorem i_vc_replace {k : Nat} {u : SX} {v : SY} (I : i_Rel k u v) (hk : k + 5 ≤ 2560) : wpX_replace (fun r u' => wpY_replace (fun r' v' => r' = r ∧ i_Rel (k + 5) u' v') v) u := by
  have J := i_up I
  obtain ⟨g, xr, xb, xf, xj, xk, xv, xp, yd, c, sg, B, rfl, rfl, hg, hf, ⟨rfl, rfl, rfl, hI⟩ | ⟨rfl, rfl, hd⟩⟩ := I
  · unfold wpX_replace wpY_replace
    rcases hf with rfl | ⟨f, hf5, rfl⟩
    · exact br_f (by decide) (br_t rfl (br_t rfl (br_f (by decide) ⟨rfl, J⟩)))
    · exact br_f (by decide) (br_f (ra_m1 (by omega)) (ra_replaceL hg hf5 hI (fun c' hI' => br_t rfl (br_t (nI_pos' (by omega)) ⟨rfl, ra_Up hg (Or.inl rfl) hI'⟩))))
  · unfold wpX_replace wpY_replace
    exact br_t rfl (br_f (by decide) ⟨rfl, J⟩)
theorem i_vc_scrub {k : Nat} {u : SX} {v : SY} (I : i_Rel k u v) (hk : k + 5 ≤ 2560) : wpX_scrub (fun r => wpY_scrub (fun r' => r' = r ∧ i_Rel (k + 5) u v) v) u := by
  have J := i_up I
  obtain ⟨g, xr, xb, xf, xj, xk, xv, xp, yd, c, sg, B, rfl, rfl, hg, hf, ⟨rfl, rfl, rfl, hI⟩ | ⟨rfl, rfl, hd⟩⟩ := I
  · unfold wpX_scrub wpY_scrub
    rcases hf with rfl | ⟨f, hf5, rfl⟩
    · exact br_f (by decide) (br_t rfl (ra_scrubL hg hI (br_t rfl (br_t (by decide) ⟨rfl, J⟩))))
    · exact br_f (by decide) (br_f (ra_m1 (by omega)) (br_t rfl (br_f (ra_lostN hf5) ⟨rfl, J⟩)))
  · unfold wpX_scrub wpY_scrub
    exact br_t rfl (br_f (by decide) ⟨rfl, J⟩)
