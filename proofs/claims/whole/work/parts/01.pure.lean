theorem pk_us {f : Nat → Int32} {k : Nat} {x : Int32} : upd f k x k = x := if_pos rfl
theorem pk_un {f : Nat → Int32} {k j : Nat} {x : Int32} (h : j ≠ k) : upd f k x j = f j := if_neg h
theorem pk_sub {a b : Nat} (h : b ≤ a) : nI a - nI b = nI (a - b) := by
  obtain ⟨c, rfl⟩ : ∃ c, a = c + b := ⟨a - b, by omega⟩
  rw [← nI_add, Int32.add_sub_cancel, Nat.add_sub_cancel]
theorem pk_m1 (n : Nat) : nI (n + 1) + (-1) = nI n := by
  rw [← nI_1, Int32.add_assoc, show (1 : Int32) + (-1) = 0 from rfl, Int32.add_zero]
theorem pk_mul (a b : Nat) : nI a * nI b = nI (a * b) := (Int32.ofNat_mul a b).symm
theorem pk_div {a d : Nat} (ha : a < 2 ^ 31) (h0 : 0 < d) (hd : d < 2 ^ 31) : nI a / nI d = nI (a / d) := by
  apply Int32.toInt_inj.mp
  rw [lg_idiv_nonneg (by rw [nI_toInt ha]; omega) (by rw [nI_toInt hd]; omega), nI_toInt ha, nI_toInt hd, nI_toInt (Nat.lt_of_le_of_lt (Nat.div_le_self a d) ha)]
  first | rfl | exact (Int.natCast_ediv _ _).symm
theorem pk_rem {a d : Nat} (ha : a < 2 ^ 31) (h0 : 0 < d) (hd : d < 2 ^ 31) : nI a - nI a / nI d * nI d = nI (a % d) := by
  rw [pk_div ha h0 hd, pk_mul, pk_sub (Nat.div_mul_le_self a d)]
  exact congrArg nI (by have := Nat.div_add_mod' a d; omega)
theorem pk_ix (x : Int32) {n : Nat} (hn : n < 2 ^ 31) : x < 0 ∨ nI n ≤ x ∨ ∃ j : Nat, j < n ∧ x = nI j := by
  by_cases h : x < 0
  · exact Or.inl h
  · obtain ⟨j, hj, rfl⟩ := nI_of h
    by_cases h2 : j < n
    · exact Or.inr (Or.inr ⟨j, h2, rfl⟩)
    · exact Or.inr (Or.inl (nI_le (by omega) hj))
theorem pk_le {x y : Int32} {A B : Prop} (a b : Nat) (f : a ≤ b → A) (g : b < a → B) (hx : x = nI a := by rfl) (hy : y = nI b := by rfl) (ha : a < 2 ^ 31 := by omega) (hb : b < 2 ^ 31 := by omega) : (x ≤ y → A) ∧ (¬ x ≤ y → B) := by
  subst hx hy
  rw [nI_leI ha hb]
  exact ⟨f, fun z => g (by omega)⟩
theorem pk_lt {x y : Int32} {A B : Prop} (a b : Nat) (f : a < b → A) (g : b ≤ a → B) (hx : x = nI a := by rfl) (hy : y = nI b := by rfl) (ha : a < 2 ^ 31 := by omega) (hb : b < 2 ^ 31 := by omega) : (x < y → A) ∧ (¬ x < y → B) := by
  subst hx hy
  rw [nI_ltI ha hb]
  exact ⟨f, fun z => g (by omega)⟩
theorem pk_eq {x y : Int32} {A B : Prop} (a b : Nat) (f : a = b → A) (g : a ≠ b → B) (hx : x = nI a := by rfl) (hy : y = nI b := by rfl) (ha : a < 2 ^ 31 := by omega) (hb : b < 2 ^ 31 := by omega) : (x = y → A) ∧ (¬ x = y → B) := by
  subst hx hy
  rw [nI_eq ha hb]
  exact ⟨f, g⟩
theorem pk_in {x : Int32} (n N : Nat) (h : n < N) (hx : x = nI n := by rfl) (hN : N < 2 ^ 31 := by omega) : vp_in x N := by
  subst hx
  exact vp_in_nI h hN
theorem pk_cl {x : Int32} (n : Nat) (hx : x = nI n := by rfl) (h : n < 2 ^ 31 := by omega) : x.toNatClampNeg = n := by
  subst hx
  exact nI_clamp h
theorem pk_loop {σ : Type} (W : Nat → Nat → σ → Prop) (I : Nat → σ → Prop) (e i0 : Nat) (s : σ) (hi : i0 ≤ e) (h0 : I i0 s) (hx : ∀ n s, I e s → W (n + 1) e s)
    (hs : ∀ n i s, i < e → I i s → (∀ s', I (i + 1) s' → W n (i + 1) s') → W (n + 1) i s) : ∃ n, W n i0 s :=
  ⟨e + 1, loop_i W I e hx hs (e + 1) i0 s hi (by omega) h0⟩
theorem ek_v {α : Sort _} {P : α → Prop} {a b : α} (e : a = b) (h : P b) : P a := e ▸ h
theorem ra_xl (a b c : Int32) : a ^^^ (b ^^^ c) = b ^^^ (a ^^^ c) := by
  rw [← Int32.xor_assoc, ← Int32.xor_assoc, Int32.xor_comm a b]
theorem ra_xx (a b : Int32) : a ^^^ (a ^^^ b) = b := by
  rw [← Int32.xor_assoc, Int32.xor_self, Int32.zero_xor]
/-- the xor of the first cells of a row, without the one that f names -/
def ra_xo (e : Nat → Int32) (f : Int32) : Nat → Int32
  | 0 => 0
  | n + 1 => if nI n = f then ra_xo e f n else ra_xo e f n ^^^ e n
theorem ra_ne {i j : Nat} (hi : i < 100) (hj : j < 100) : (nI i = nI j) = (i = j) := propext (nI_eq (by omega) (by omega))
theorem ra_m1 {i : Nat} (hi : i < 100) : nI i ≠ -1 := by
  intro h
  have := congrArg Int32.toInt h
  rw [nI_toInt (by omega)] at this
  have e : (-1 : Int32).toInt = -1 := by decide
  omega
theorem ra_xo5 {e d : Nat → Int32} {k : Nat} (s : Nat) (hk : k < 5) (hd : d 4 = d 0 ^^^ (d 1 ^^^ (d 2 ^^^ d 3))) (he : ∀ m, m < 5 → m ≠ k → e m = d ((m + s) % 5)) : ra_xo e (nI k) 5 = d ((k + s) % 5) := by
  have q : ∀ m, (m + s) % 5 = (m + s % 5) % 5 := fun m => by omega
  rw [q k]
  have h : ∀ m, m < 5 → m ≠ k → e m = d ((m + s % 5) % 5) := fun m a b => by rw [he m a b, q m]
  have hs : s % 5 < 5 := Nat.mod_lt _ (by decide)
  generalize s % 5 = t at h hs ⊢
  clear q he
  have h0 := h 0 (by decide)
  have h1 := h 1 (by decide)
  have h2 := h 2 (by decide)
  have h3 := h 3 (by decide)
  have h4 := h 4 (by decide)
  have ht : t = 0 ∨ t = 1 ∨ t = 2 ∨ t = 3 ∨ t = 4 := by omega
  have hk' : k = 0 ∨ k = 1 ∨ k = 2 ∨ k = 3 ∨ k = 4 := by omega
  clear h hs hk
  rcases ht with rfl | rfl | rfl | rfl | rfl <;> rcases hk' with rfl | rfl | rfl | rfl | rfl <;>
    simp [ra_xo, ra_ne, h0, h1, h2, h3, h4, hd, Int32.xor_assoc, ra_xl, ra_xx, Int32.xor_comm]
theorem ra_xo5z {e d : Nat → Int32} {f : Int32} (s : Nat) (hf : ∀ m, m < 5 → nI m ≠ f) (hd : d 4 = d 0 ^^^ (d 1 ^^^ (d 2 ^^^ d 3))) (he : ∀ m, m < 5 → e m = d ((m + s) % 5)) : ra_xo e f 5 = 0 := by
  have q : ∀ m, (m + s) % 5 = (m + s % 5) % 5 := fun m => by omega
  have h : ∀ m, m < 5 → e m = d ((m + s % 5) % 5) := fun m a => by rw [he m a, q m]
  have hs : s % 5 < 5 := Nat.mod_lt _ (by decide)
  generalize s % 5 = t at h hs
  clear q he
  have h0 := h 0 (by decide)
  have h1 := h 1 (by decide)
  have h2 := h 2 (by decide)
  have h3 := h 3 (by decide)
  have h4 := h 4 (by decide)
  have f0 := hf 0 (by decide)
  have f1 := hf 1 (by decide)
  have f2 := hf 2 (by decide)
  have f3 := hf 3 (by decide)
  have f4 := hf 4 (by decide)
  have ht : t = 0 ∨ t = 1 ∨ t = 2 ∨ t = 3 ∨ t = 4 := by omega
  clear h hs hf
  rcases ht with rfl | rfl | rfl | rfl | rfl <;>
    simp [ra_xo, f0, f1, f2, f3, f4, h0, h1, h2, h3, h4, hd, Int32.xor_assoc, ra_xl, ra_xx, Int32.xor_comm]
theorem ra_xo3 {e d : Nat → Int32} {k : Nat} (s : Nat) (hk : k < 3) (hd : d 2 = d 0 ^^^ d 1) (he : ∀ m, m < 3 → m ≠ k → e m = d ((m + s) % 3)) : ra_xo e (nI k) 3 = d ((k + s) % 3) := by
  have q : ∀ m, (m + s) % 3 = (m + s % 3) % 3 := fun m => by omega
  rw [q k]
  have h : ∀ m, m < 3 → m ≠ k → e m = d ((m + s % 3) % 3) := fun m a b => by rw [he m a b, q m]
  have hs : s % 3 < 3 := Nat.mod_lt _ (by decide)
  generalize s % 3 = t at h hs ⊢
  clear q he
  have h0 := h 0 (by decide)
  have h1 := h 1 (by decide)
  have h2 := h 2 (by decide)
  have ht : t = 0 ∨ t = 1 ∨ t = 2 := by omega
  have hk' : k = 0 ∨ k = 1 ∨ k = 2 := by omega
  clear h hs hk
  rcases ht with rfl | rfl | rfl <;> rcases hk' with rfl | rfl | rfl <;>
    simp [ra_xo, ra_ne, h0, h1, h2, hd, Int32.xor_assoc, ra_xl, ra_xx, Int32.xor_comm]
theorem ra_xo3z {e d : Nat → Int32} {f : Int32} (s : Nat) (hf : ∀ m, m < 5 → nI m ≠ f) (hd : d 2 = d 0 ^^^ d 1) (he : ∀ m, m < 3 → e m = d ((m + s) % 3)) : ra_xo e f 3 = 0 := by
  have q : ∀ m, (m + s) % 3 = (m + s % 3) % 3 := fun m => by omega
  have h : ∀ m, m < 3 → e m = d ((m + s % 3) % 3) := fun m a => by rw [he m a, q m]
  have hs : s % 3 < 3 := Nat.mod_lt _ (by decide)
  generalize s % 3 = t at h hs
  clear q he
  have h0 := h 0 (by decide)
  have h1 := h 1 (by decide)
  have h2 := h 2 (by decide)
  have f0 := hf 0 (by decide)
  have f1 := hf 1 (by decide)
  have f2 := hf 2 (by decide)
  have ht : t = 0 ∨ t = 1 ∨ t = 2 := by omega
  clear h hs hf
  rcases ht with rfl | rfl | rfl <;>
    simp [ra_xo, f0, f1, f2, h0, h1, h2, hd, Int32.xor_assoc, ra_xl, ra_xx, Int32.xor_comm]
/-- the width of a row's stripe when g groups have moved -/
def ra_w (g row : Nat) : Nat := if g = 6 ∨ row < g then 5 else if 2 * g ≤ row then 3 else 0
def ra_5 (B : Nat → Int32) (row p : Nat) : Int32 := if p = 4 then B (4 * row) ^^^ (B (4 * row + 1) ^^^ (B (4 * row + 2) ^^^ B (4 * row + 3))) else B (4 * row + p)
def ra_3 (B : Nat → Int32) (row p : Nat) : Int32 := if p = 2 then B (2 * row) ^^^ B (2 * row + 1) else B (2 * row + p)
/-- what the cell of member m in this row should hold -/
def ra_D (B : Nat → Int32) (g m row : Nat) : Int32 := if ra_w g row = 5 then ra_5 B row ((m + 4 * row) % 5) else ra_3 B row ((m + 2 * row) % 3)
theorem ra_wc (g row : Nat) : ra_w g row = 5 ∨ ra_w g row = 3 ∨ ra_w g row = 0 := by
  unfold ra_w
  split
  · exact Or.inl rfl
  · split
    · exact Or.inr (Or.inl rfl)
    · exact Or.inr (Or.inr rfl)
theorem ra_w5 {g row : Nat} (h : g = 6 ∨ row < g) : ra_w g row = 5 := if_pos h
theorem ra_w3 {g row : Nat} (h : ¬ (g = 6 ∨ row < g)) (h2 : 2 * g ≤ row) : ra_w g row = 3 := (if_neg h).trans (if_pos h2)
theorem ra_w0 {g row : Nat} (h : ¬ (g = 6 ∨ row < g)) (h2 : ¬ 2 * g ≤ row) : ra_w g row = 0 := (if_neg h).trans (if_neg h2)
theorem ra_w5i {g row : Nat} (h : ra_w g row = 5) : g = 6 ∨ row < g := by
  unfold ra_w at h
  split at h
  · assumption
  · split at h <;> omega
theorem ra_w3i {g row : Nat} (h : ra_w g row = 3) : ¬ (g = 6 ∨ row < g) ∧ 2 * g ≤ row := by
  unfold ra_w at h
  split at h
  · omega
  · split at h
    · exact ⟨by assumption, by assumption⟩
    · omega
theorem ra_wle (g row : Nat) : ra_w g row ≤ 5 := by
  rcases ra_wc g row with e | e | e <;> omega
theorem ra_D5 {B : Nat → Int32} {g m row : Nat} (e : ra_w g row = 5) : ra_D B g m row = ra_5 B row ((m + 4 * row) % 5) := if_pos e
theorem ra_D3 {B : Nat → Int32} {g m row : Nat} (e : ra_w g row = 3) : ra_D B g m row = ra_3 B row ((m + 2 * row) % 3) := if_neg (by omega)
theorem ra_5x (B : Nat → Int32) (row : Nat) : ra_5 B row 4 = ra_5 B row 0 ^^^ (ra_5 B row 1 ^^^ (ra_5 B row 2 ^^^ ra_5 B row 3)) := by simp [ra_5]
theorem ra_3x (B : Nat → Int32) (row : Nat) : ra_3 B row 2 = ra_3 B row 0 ^^^ ra_3 B row 1 := by simp [ra_3]
theorem ra_xD {c B : Nat → Int32} {g row k : Nat} (hk : k < ra_w g row) (h : ∀ m, m < ra_w g row → m ≠ k → c (m * 12 + row) = ra_D B g m row) : ra_xo (fun m => c (m * 12 + row)) (nI k) (ra_w g row) = ra_D B g k row := by
  rcases ra_wc g row with e | e | e
  · rw [ra_D5 e, e]
    exact ra_xo5 (4 * row) (by omega) (ra_5x B row) (fun m a b => by rw [h m (by omega) b, ra_D5 e])
  · rw [ra_D3 e, e]
    exact ra_xo3 (2 * row) (by omega) (ra_3x B row) (fun m a b => by rw [h m (by omega) b, ra_D3 e])
  · omega
theorem ra_xDz {c B : Nat → Int32} {g row : Nat} {f : Int32} (hf : ∀ m, m < 5 → nI m ≠ f) (h : ∀ m, m < ra_w g row → c (m * 12 + row) = ra_D B g m row) : ra_xo (fun m => c (m * 12 + row)) f (ra_w g row) = 0 := by
  rcases ra_wc g row with e | e | e
  · rw [e]
    exact ra_xo5z (4 * row) hf (ra_5x B row) (fun m a => by rw [h m (by omega), ra_D5 e])
  · rw [e]
    exact ra_xo3z (2 * row) hf (ra_3x B row) (fun m a => by rw [h m (by omega), ra_D3 e])
  · rw [e]
    rfl
