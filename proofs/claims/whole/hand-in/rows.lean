section
theorem pk_us {f : Nat → Int32} {k : Nat} {x : Int32} : upd f k x k = x := if_pos rfl
theorem pk_un {f : Nat → Int32} {k j : Nat} {x : Int32} (h : j ≠ k) : upd f k x j = f j := if_neg h
theorem pk_sub {a b : Nat} (h : b ≤ a) : nI a - nI b = nI (a - b) := by
  obtain ⟨c, rfl⟩ : ∃ c, a = c + b := ⟨a - b, by omega⟩
  rw [← nI_add, Int32.add_sub_cancel, Nat.add_sub_cancel]
theorem pk_m1 (n : Nat) : nI (n + 1) + (-1) = nI n := by
  rw [← nI_1, Int32.add_assoc, show (1 : Int32) + (-1) = 0 from rfl, Int32.add_zero]
theorem pk_mul (a b : Nat) : nI a * nI b = nI (a * b) := (Int32.ofNat_mul a b).symm
theorem pk_div {a d : Nat} (ha : a < 2 ^ 31) (h0 : 0 < d) (hd : d < 2 ^ 31) : nI a / nI d = nI (a / d) := by
  apply Int32.toInt_inj.mp
  rw [lg_idiv_nonneg (by rw [nI_toInt ha]; omega) (by rw [nI_toInt hd]; omega), nI_toInt ha, nI_toInt hd, nI_toInt (Nat.lt_of_le_of_lt (Nat.div_le_self a d) ha)]
  first | rfl | exact (Int.natCast_ediv _ _).symm
theorem pk_rem {a d : Nat} (ha : a < 2 ^ 31) (h0 : 0 < d) (hd : d < 2 ^ 31) : nI a - nI a / nI d * nI d = nI (a % d) := by
  rw [pk_div ha h0 hd, pk_mul, pk_sub (Nat.div_mul_le_self a d)]
  exact congrArg nI (by have := Nat.div_add_mod' a d; omega)
theorem pk_ix (x : Int32) {n : Nat} (hn : n < 2 ^ 31) : x < 0 ∨ nI n ≤ x ∨ ∃ j : Nat, j < n ∧ x = nI j := by
  by_cases h : x < 0
  · exact Or.inl h
  · obtain ⟨j, hj, rfl⟩ := nI_of h
    by_cases h2 : j < n
    · exact Or.inr (Or.inr ⟨j, h2, rfl⟩)
    · exact Or.inr (Or.inl (nI_le (by omega) hj))
theorem pk_le {x y : Int32} {A B : Prop} (a b : Nat) (f : a ≤ b → A) (g : b < a → B) (hx : x = nI a := by rfl) (hy : y = nI b := by rfl) (ha : a < 2 ^ 31 := by omega) (hb : b < 2 ^ 31 := by omega) : (x ≤ y → A) ∧ (¬ x ≤ y → B) := by
  subst hx hy
  rw [nI_leI ha hb]
  exact ⟨f, fun z => g (by omega)⟩
theorem pk_lt {x y : Int32} {A B : Prop} (a b : Nat) (f : a < b → A) (g : b ≤ a → B) (hx : x = nI a := by rfl) (hy : y = nI b := by rfl) (ha : a < 2 ^ 31 := by omega) (hb : b < 2 ^ 31 := by omega) : (x < y → A) ∧ (¬ x < y → B) := by
  subst hx hy
  rw [nI_ltI ha hb]
  exact ⟨f, fun z => g (by omega)⟩
theorem pk_eq {x y : Int32} {A B : Prop} (a b : Nat) (f : a = b → A) (g : a ≠ b → B) (hx : x = nI a := by rfl) (hy : y = nI b := by rfl) (ha : a < 2 ^ 31 := by omega) (hb : b < 2 ^ 31 := by omega) : (x = y → A) ∧ (¬ x = y → B) := by
  subst hx hy
  rw [nI_eq ha hb]
  exact ⟨f, g⟩
theorem pk_in {x : Int32} (n N : Nat) (h : n < N) (hx : x = nI n := by rfl) (hN : N < 2 ^ 31 := by omega) : vp_in x N := by
  subst hx
  exact vp_in_nI h hN
theorem pk_cl {x : Int32} (n : Nat) (hx : x = nI n := by rfl) (h : n < 2 ^ 31 := by omega) : x.toNatClampNeg = n := by
  subst hx
  exact nI_clamp h
theorem pk_loop {σ : Type} (W : Nat → Nat → σ → Prop) (I : Nat → σ → Prop) (e i0 : Nat) (s : σ) (hi : i0 ≤ e) (h0 : I i0 s) (hx : ∀ n s, I e s → W (n + 1) e s)
    (hs : ∀ n i s, i < e → I i s → (∀ s', I (i + 1) s' → W n (i + 1) s') → W (n + 1) i s) : ∃ n, W n i0 s :=
  ⟨e + 1, loop_i W I e hx hs (e + 1) i0 s hi (by omega) h0⟩
theorem ek_v {α : Sort _} {P : α → Prop} {a b : α} (e : a = b) (h : P b) : P a := e ▸ h
theorem ra_xl (a b c : Int32) : a ^^^ (b ^^^ c) = b ^^^ (a ^^^ c) := by
  rw [← Int32.xor_assoc, ← Int32.xor_assoc, Int32.xor_comm a b]
theorem ra_xx (a b : Int32) : a ^^^ (a ^^^ b) = b := by
  rw [← Int32.xor_assoc, Int32.xor_self, Int32.zero_xor]
/-- the xor of the first cells of a row, without the one that f names -/
def ra_xo (e : Nat → Int32) (f : Int32) : Nat → Int32
  | 0 => 0
  | n + 1 => if nI n = f then ra_xo e f n else ra_xo e f n ^^^ e n
theorem ra_ne {i j : Nat} (hi : i < 100) (hj : j < 100) : (nI i = nI j) = (i = j) := propext (nI_eq (by omega) (by omega))
theorem ra_m1 {i : Nat} (hi : i < 100) : nI i ≠ -1 := by
  intro h
  have := congrArg Int32.toInt h
  rw [nI_toInt (by omega)] at this
  have e : (-1 : Int32).toInt = -1 := by decide
  omega
theorem ra_xo5 {e d : Nat → Int32} {k : Nat} (s : Nat) (hk : k < 5) (hd : d 4 = d 0 ^^^ (d 1 ^^^ (d 2 ^^^ d 3))) (he : ∀ m, m < 5 → m ≠ k → e m = d ((m + s) % 5)) : ra_xo e (nI k) 5 = d ((k + s) % 5) := by
  have q : ∀ m, (m + s) % 5 = (m + s % 5) % 5 := fun m => by omega
  rw [q k]
  have h : ∀ m, m < 5 → m ≠ k → e m = d ((m + s % 5) % 5) := fun m a b => by rw [he m a b, q m]
  have hs : s % 5 < 5 := Nat.mod_lt _ (by decide)
  generalize s % 5 = t at h hs ⊢
  clear q he
  have h0 := h 0 (by decide)
  have h1 := h 1 (by decide)
  have h2 := h 2 (by decide)
  have h3 := h 3 (by decide)
  have h4 := h 4 (by decide)
  have ht : t = 0 ∨ t = 1 ∨ t = 2 ∨ t = 3 ∨ t = 4 := by omega
  have hk' : k = 0 ∨ k = 1 ∨ k = 2 ∨ k = 3 ∨ k = 4 := by omega
  clear h hs hk
  rcases ht with rfl | rfl | rfl | rfl | rfl <;> rcases hk' with rfl | rfl | rfl | rfl | rfl <;>
    simp [ra_xo, ra_ne, h0, h1, h2, h3, h4, hd, Int32.xor_assoc, ra_xl, ra_xx, Int32.xor_comm]
theorem ra_xo5z {e d : Nat → Int32} {f : Int32} (s : Nat) (hf : ∀ m, m < 5 → nI m ≠ f) (hd : d 4 = d 0 ^^^ (d 1 ^^^ (d 2 ^^^ d 3))) (he : ∀ m, m < 5 → e m = d ((m + s) % 5)) : ra_xo e f 5 = 0 := by
  have q : ∀ m, (m + s) % 5 = (m + s % 5) % 5 := fun m => by omega
  have h : ∀ m, m < 5 → e m = d ((m + s % 5) % 5) := fun m a => by rw [he m a, q m]
  have hs : s % 5 < 5 := Nat.mod_lt _ (by decide)
  generalize s % 5 = t at h hs
  clear q he
  have h0 := h 0 (by decide)
  have h1 := h 1 (by decide)
  have h2 := h 2 (by decide)
  have h3 := h 3 (by decide)
  have h4 := h 4 (by decide)
  have f0 := hf 0 (by decide)
  have f1 := hf 1 (by decide)
  have f2 := hf 2 (by decide)
  have f3 := hf 3 (by decide)
  have f4 := hf 4 (by decide)
  have ht : t = 0 ∨ t = 1 ∨ t = 2 ∨ t = 3 ∨ t = 4 := by omega
  clear h hs hf
  rcases ht with rfl | rfl | rfl | rfl | rfl <;>
    simp [ra_xo, f0, f1, f2, f3, f4, h0, h1, h2, h3, h4, hd, Int32.xor_assoc, ra_xl, ra_xx, Int32.xor_comm]
theorem ra_xo3 {e d : Nat → Int32} {k : Nat} (s : Nat) (hk : k < 3) (hd : d 2 = d 0 ^^^ d 1) (he : ∀ m, m < 3 → m ≠ k → e m = d ((m + s) % 3)) : ra_xo e (nI k) 3 = d ((k + s) % 3) := by
  have q : ∀ m, (m + s) % 3 = (m + s % 3) % 3 := fun m => by omega
  rw [q k]
  have h : ∀ m, m < 3 → m ≠ k → e m = d ((m + s % 3) % 3) := fun m a b => by rw [he m a b, q m]
  have hs : s % 3 < 3 := Nat.mod_lt _ (by decide)
  generalize s % 3 = t at h hs ⊢
  clear q he
  have h0 := h 0 (by decide)
  have h1 := h 1 (by decide)
  have h2 := h 2 (by decide)
  have ht : t = 0 ∨ t = 1 ∨ t = 2 := by omega
  have hk' : k = 0 ∨ k = 1 ∨ k = 2 := by omega
  clear h hs hk
  rcases ht with rfl | rfl | rfl <;> rcases hk' with rfl | rfl | rfl <;>
    simp [ra_xo, ra_ne, h0, h1, h2, hd, Int32.xor_assoc, ra_xl, ra_xx, Int32.xor_comm]
theorem ra_xo3z {e d : Nat → Int32} {f : Int32} (s : Nat) (hf : ∀ m, m < 5 → nI m ≠ f) (hd : d 2 = d 0 ^^^ d 1) (he : ∀ m, m < 3 → e m = d ((m + s) % 3)) : ra_xo e f 3 = 0 := by
  have q : ∀ m, (m + s) % 3 = (m + s % 3) % 3 := fun m => by omega
  have h : ∀ m, m < 3 → e m = d ((m + s % 3) % 3) := fun m a => by rw [he m a, q m]
  have hs : s % 3 < 3 := Nat.mod_lt _ (by decide)
  generalize s % 3 = t at h hs
  clear q he
  have h0 := h 0 (by decide)
  have h1 := h 1 (by decide)
  have h2 := h 2 (by decide)
  have f0 := hf 0 (by decide)
  have f1 := hf 1 (by decide)
  have f2 := hf 2 (by decide)
  have ht : t = 0 ∨ t = 1 ∨ t = 2 := by omega
  clear h hs hf
  rcases ht with rfl | rfl | rfl <;>
    simp [ra_xo, f0, f1, f2, h0, h1, h2, hd, Int32.xor_assoc, ra_xl, ra_xx, Int32.xor_comm]
/-- the width of a row's stripe when g groups have moved -/
def ra_w (g row : Nat) : Nat := if g = 6 ∨ row < g then 5 else if 2 * g ≤ row then 3 else 0
def ra_5 (B : Nat → Int32) (row p : Nat) : Int32 := if p = 4 then B (4 * row) ^^^ (B (4 * row + 1) ^^^ (B (4 * row + 2) ^^^ B (4 * row + 3))) else B (4 * row + p)
def ra_3 (B : Nat → Int32) (row p : Nat) : Int32 := if p = 2 then B (2 * row) ^^^ B (2 * row + 1) else B (2 * row + p)
/-- what the cell of member m in this row should hold -/
def ra_D (B : Nat → Int32) (g m row : Nat) : Int32 := if ra_w g row = 5 then ra_5 B row ((m + 4 * row) % 5) else ra_3 B row ((m + 2 * row) % 3)
theorem ra_wc (g row : Nat) : ra_w g row = 5 ∨ ra_w g row = 3 ∨ ra_w g row = 0 := by
  unfold ra_w
  split
  · exact Or.inl rfl
  · split
    · exact Or.inr (Or.inl rfl)
    · exact Or.inr (Or.inr rfl)
theorem ra_w5 {g row : Nat} (h : g = 6 ∨ row < g) : ra_w g row = 5 := if_pos h
theorem ra_w3 {g row : Nat} (h : ¬ (g = 6 ∨ row < g)) (h2 : 2 * g ≤ row) : ra_w g row = 3 := (if_neg h).trans (if_pos h2)
theorem ra_w0 {g row : Nat} (h : ¬ (g = 6 ∨ row < g)) (h2 : ¬ 2 * g ≤ row) : ra_w g row = 0 := (if_neg h).trans (if_neg h2)
theorem ra_w5i {g row : Nat} (h : ra_w g row = 5) : g = 6 ∨ row < g := by
  unfold ra_w at h
  split at h
  · assumption
  · split at h <;> omega
theorem ra_w3i {g row : Nat} (h : ra_w g row = 3) : ¬ (g = 6 ∨ row < g) ∧ 2 * g ≤ row := by
  unfold ra_w at h
  split at h
  · omega
  · split at h
    · exact ⟨by assumption, by assumption⟩
    · omega
theorem ra_wle (g row : Nat) : ra_w g row ≤ 5 := by
  rcases ra_wc g row with e | e | e <;> omega
theorem ra_D5 {B : Nat → Int32} {g m row : Nat} (e : ra_w g row = 5) : ra_D B g m row = ra_5 B row ((m + 4 * row) % 5) := if_pos e
theorem ra_D3 {B : Nat → Int32} {g m row : Nat} (e : ra_w g row = 3) : ra_D B g m row = ra_3 B row ((m + 2 * row) % 3) := if_neg (by omega)
theorem ra_5x (B : Nat → Int32) (row : Nat) : ra_5 B row 4 = ra_5 B row 0 ^^^ (ra_5 B row 1 ^^^ (ra_5 B row 2 ^^^ ra_5 B row 3)) := by simp [ra_5]
theorem ra_3x (B : Nat → Int32) (row : Nat) : ra_3 B row 2 = ra_3 B row 0 ^^^ ra_3 B row 1 := by simp [ra_3]
theorem ra_xD {c B : Nat → Int32} {g row k : Nat} (hk : k < ra_w g row) (h : ∀ m, m < ra_w g row → m ≠ k → c (m * 12 + row) = ra_D B g m row) : ra_xo (fun m => c (m * 12 + row)) (nI k) (ra_w g row) = ra_D B g k row := by
  rcases ra_wc g row with e | e | e
  · rw [ra_D5 e, e]
    exact ra_xo5 (4 * row) (by omega) (ra_5x B row) (fun m a b => by rw [h m (by omega) b, ra_D5 e])
  · rw [ra_D3 e, e]
    exact ra_xo3 (2 * row) (by omega) (ra_3x B row) (fun m a b => by rw [h m (by omega) b, ra_D3 e])
  · omega
theorem ra_xDz {c B : Nat → Int32} {g row : Nat} {f : Int32} (hf : ∀ m, m < 5 → nI m ≠ f) (h : ∀ m, m < ra_w g row → c (m * 12 + row) = ra_D B g m row) : ra_xo (fun m => c (m * 12 + row)) f (ra_w g row) = 0 := by
  rcases ra_wc g row with e | e | e
  · rw [e]
    exact ra_xo5z (4 * row) hf (ra_5x B row) (fun m a => by rw [h m (by omega), ra_D5 e])
  · rw [e]
    exact ra_xo3z (2 * row) hf (ra_3x B row) (fun m a => by rw [h m (by omega), ra_D3 e])
  · rw [e]
    rfl
end
section
def ra_sz (g : Nat) : Nat := if g = 6 then 48 else 24
def ra_row (g b : Nat) : Nat := if g = 6 ∨ b < 4 * g then b / 4 else b / 2
def ra_wb (g b : Nat) : Nat := if g = 6 ∨ b < 4 * g then 5 else 3
def ra_mem (g b : Nat) : Nat := if g = 6 ∨ b < 4 * g then (b / 4 + b % 4) % 5 else (b / 2 + b % 2) % 3
def ra_par (g b : Nat) : Nat := if g = 6 ∨ b < 4 * g then (b / 4 + 4) % 5 else (b / 2 + 2) % 3
theorem ra_szl (g : Nat) : ra_sz g ≤ 48 := by
  unfold ra_sz
  split <;> omega
theorem ra_sz24 {g b : Nat} (hb : b < ra_sz g) (h : g ≠ 6) : b < 24 := by
  unfold ra_sz at hb
  rw [if_neg h] at hb
  exact hb
theorem ra_bf {g b : Nat} (hg : g ≤ 6) (hb : b < ra_sz g) : ra_row g b < 12 ∧ ra_w g (ra_row g b) = ra_wb g b ∧ ra_mem g b < ra_wb g b ∧ ra_par g b < ra_wb g b ∧ ra_mem g b ≠ ra_par g b ∧ ra_wb g b ≤ 5 := by
  have h48 := ra_szl g
  by_cases hm : g = 6 ∨ b < 4 * g
  · unfold ra_row ra_wb ra_mem ra_par
    simp only [if_pos hm]
    refine ⟨by omega, ra_w5 (by omega), by omega, by omega, by omega, by omega⟩
  · unfold ra_row ra_wb ra_mem ra_par
    simp only [if_neg hm]
    have := ra_sz24 hb (by omega)
    refine ⟨by omega, ra_w3 (by omega) (by omega), by omega, by omega, by omega, by omega⟩
theorem ra_Dmem {B : Nat → Int32} {g b : Nat} (hg : g ≤ 6) (hb : b < ra_sz g) : ra_D B g (ra_mem g b) (ra_row g b) = B b := by
  have hw := (ra_bf hg hb).2.1
  by_cases hm : g = 6 ∨ b < 4 * g
  · unfold ra_wb at hw
    rw [if_pos hm] at hw
    rw [ra_D5 hw]
    unfold ra_row ra_mem ra_5
    simp only [if_pos hm]
    rw [if_neg (by omega)]
    exact congrArg B (by omega)
  · unfold ra_wb at hw
    rw [if_neg hm] at hw
    rw [ra_D3 hw]
    unfold ra_row ra_mem ra_3
    simp only [if_neg hm]
    rw [if_neg (by omega)]
    exact congrArg B (by omega)
theorem ra_5c {B B' : Nat → Int32} {row p : Nat} (hp : p < 5) (h : ∀ j, 4 * row ≤ j → j < 4 * row + 4 → B j = B' j) : ra_5 B row p = ra_5 B' row p := by
  unfold ra_5
  split
  · rw [h (4 * row) (by omega) (by omega), h (4 * row + 1) (by omega) (by omega), h (4 * row + 2) (by omega) (by omega), h (4 * row + 3) (by omega) (by omega)]
  · exact h _ (by omega) (by omega)
theorem ra_3c {B B' : Nat → Int32} {row p : Nat} (hp : p < 3) (h : ∀ j, 2 * row ≤ j → j < 2 * row + 2 → B j = B' j) : ra_3 B row p = ra_3 B' row p := by
  unfold ra_3
  split
  · rw [h (2 * row) (by omega) (by omega), h (2 * row + 1) (by omega) (by omega)]
  · exact h _ (by omega) (by omega)
theorem ra_Dne {B : Nat → Int32} {g b m row : Nat} {v : Int32} (hg : g ≤ 6) (hb : b < ra_sz g) (hm : m < ra_w g row) (h : row = ra_row g b → m ≠ ra_mem g b ∧ m ≠ ra_par g b) : ra_D (upd B b v) g m row = ra_D B g m row := by
  unfold ra_row ra_mem ra_par at h
  rcases ra_wc g row with e | e | e
  · rw [ra_D5 e, ra_D5 e]
    have hi := ra_w5i e
    by_cases hv : g = 6 ∨ b < 4 * g
    · simp only [if_pos hv] at h
      by_cases hr : row = b / 4
      · unfold ra_5
        rw [if_neg (by omega), if_neg (by omega), pk_un (by omega)]
      · exact ra_5c (by omega) (fun j _ _ => pk_un (by omega))
    · exact ra_5c (by omega) (fun j _ _ => pk_un (by omega))
  · rw [ra_D3 e, ra_D3 e]
    have hi := ra_w3i e
    by_cases hv : g = 6 ∨ b < 4 * g
    · exact ra_3c (by omega) (fun j _ _ => pk_un (by omega))
    · simp only [if_neg hv] at h
      by_cases hr : row = b / 2
      · unfold ra_3
        rw [if_neg (by omega), if_neg (by omega), pk_un (by omega)]
      · exact ra_3c (by omega) (fun j _ _ => pk_un (by omega))
  · omega
theorem ra_5p {B : Nat → Int32} {row q : Nat} {v : Int32} (hq : q < 4) : ra_5 (upd B (4 * row + q) v) row 4 = ra_5 B row 4 ^^^ (B (4 * row + q) ^^^ v) := by
  have h : q = 0 ∨ q = 1 ∨ q = 2 ∨ q = 3 := by omega
  rcases h with rfl | rfl | rfl | rfl <;> simp [ra_5, upd, Int32.xor_assoc, ra_xl, ra_xx, Int32.xor_comm]
theorem ra_3p {B : Nat → Int32} {row q : Nat} {v : Int32} (hq : q < 2) : ra_3 (upd B (2 * row + q) v) row 2 = ra_3 B row 2 ^^^ (B (2 * row + q) ^^^ v) := by
  have h : q = 0 ∨ q = 1 := by omega
  rcases h with rfl | rfl <;> simp [ra_3, upd, Int32.xor_assoc, ra_xl, ra_xx, Int32.xor_comm]
theorem ra_Dpar {B : Nat → Int32} {g b : Nat} {v : Int32} (hg : g ≤ 6) (hb : b < ra_sz g) : ra_D (upd B b v) g (ra_par g b) (ra_row g b) = ra_D B g (ra_par g b) (ra_row g b) ^^^ (B b ^^^ v) := by
  have hw := (ra_bf hg hb).2.1
  by_cases hm : g = 6 ∨ b < 4 * g
  · unfold ra_wb at hw
    rw [if_pos hm] at hw
    rw [ra_D5 hw, ra_D5 hw]
    unfold ra_row ra_par
    simp only [if_pos hm]
    rw [show ((b / 4 + 4) % 5 + 4 * (b / 4)) % 5 = 4 by omega]
    have := ra_5p (B := B) (row := b / 4) (q := b % 4) (v := v) (by omega)
    rw [show 4 * (b / 4) + b % 4 = b by omega] at this
    exact this
  · unfold ra_wb at hw
    rw [if_neg hm] at hw
    rw [ra_D3 hw, ra_D3 hw]
    unfold ra_row ra_par
    simp only [if_neg hm]
    rw [show ((b / 2 + 2) % 3 + 2 * (b / 2)) % 3 = 2 by omega]
    have := ra_3p (B := B) (row := b / 2) (q := b % 2) (v := v) (by omega)
    rw [show 2 * (b / 2) + b % 2 = b by omega] at this
    exact this
/-- every cell that R names, of a member that hasn't failed, holds what it should -/
def ra_Inv (R : Nat → Nat → Prop) (B : Nat → Int32) (g : Nat) (f : Int32) (c : Nat → Int32) : Prop := ∀ row m, row < 12 → R row m → m < ra_w g row → nI m ≠ f → c (m * 12 + row) = ra_D B g m row
def ra_put (f : Int32) (c : Nat → Int32) (m row : Nat) (v : Int32) : Nat → Int32 := if nI m = f then c else upd c (m * 12 + row) v
theorem ra_updI {R R' : Nat → Nat → Prop} {B c : Nat → Int32} {g m0 row0 : Nat} {f v : Int32} (hr : row0 < 12) (hI : ra_Inv R B g f c) (hv : R' row0 m0 → m0 < ra_w g row0 → nI m0 ≠ f → v = ra_D B g m0 row0) (hR : ∀ row m, row < 12 → m < ra_w g row → R' row m → ¬ (row = row0 ∧ m = m0) → R row m) : ra_Inv R' B g f (upd c (m0 * 12 + row0) v) := by
  intro row m h1 h2 h3 h4
  by_cases e : row = row0 ∧ m = m0
  · obtain ⟨rfl, rfl⟩ := e
    rw [pk_us]
    exact hv h2 h3 h4
  · rw [pk_un (by omega)]
    exact hI row m h1 (hR row m h1 h3 h2 e) h3 h4
theorem ra_putI {R R' : Nat → Nat → Prop} {B c : Nat → Int32} {g m0 row0 : Nat} {f v : Int32} (hr : row0 < 12) (hI : ra_Inv R B g f c) (hv : R' row0 m0 → m0 < ra_w g row0 → nI m0 ≠ f → v = ra_D B g m0 row0) (hR : ∀ row m, row < 12 → m < ra_w g row → R' row m → ¬ (row = row0 ∧ m = m0) → R row m) : ra_Inv R' B g f (ra_put f c m0 row0 v) := by
  unfold ra_put
  split
  · rename_i e
    intro row m h1 h2 h3 h4
    refine hI row m h1 (hR row m h1 h3 h2 ?_) h3 h4
    rintro ⟨_, rfl⟩
    exact h4 e
  · exact ra_updI hr hI hv hR
theorem ra_IR {R R' : Nat → Nat → Prop} {B c : Nat → Int32} {g : Nat} {f : Int32} (hI : ra_Inv R B g f c) (hR : ∀ row m, row < 12 → m < ra_w g row → R' row m → R row m) : ra_Inv R' B g f c := fun row m h1 h2 h3 h4 => hI row m h1 (hR row m h1 h3 h2) h3 h4
def ra_rec (f : Int32) (c : Nat → Int32) (g b : Nat) : Int32 := if nI (ra_mem g b) = f then ra_xo (fun m => c (m * 12 + ra_row g b)) (nI (ra_mem g b)) (ra_wb g b) else c (ra_mem g b * 12 + ra_row g b)
theorem ra_recB {R : Nat → Nat → Prop} {B c : Nat → Int32} {g b : Nat} {f : Int32} (hg : g ≤ 6) (hb : b < ra_sz g) (hI : ra_Inv R B g f c) (hR : ∀ m, R (ra_row g b) m) : ra_rec f c g b = B b := by
  obtain ⟨h1, h2, h3, h4, h5, h6⟩ := ra_bf hg hb
  unfold ra_rec
  split
  · rename_i e
    rw [← h2, ra_xD (by omega) (fun m a n => hI (ra_row g b) m h1 (hR m) a (fun z => n ?_)), ra_Dmem hg hb]
    rw [← e, ra_ne (by omega) (by omega)] at z
    exact z
  · rename_i e
    rw [hI (ra_row g b) (ra_mem g b) h1 (hR _) (by omega) e, ra_Dmem hg hb]
/-- the write of v to b: what is left to hold once data and parity are put in -/
theorem ra_wr1 {B c : Nat → Int32} {g b : Nat} {f v : Int32} (hg : g ≤ 6) (hb : b < ra_sz g) (hI : ra_Inv (fun _ _ => True) B g f c) : ra_Inv (fun row m => row = ra_row g b → m ≠ ra_mem g b ∧ m ≠ ra_par g b) (upd B b v) g f c := by
  intro row m h1 h2 h3 h4
  rw [ra_Dne hg hb h3 h2]
  exact hI row m h1 trivial h3 h4
theorem ra_wr2 {B c : Nat → Int32} {g b : Nat} {f v : Int32} (hg : g ≤ 6) (hb : b < ra_sz g) (hv : v = B b) (hI : ra_Inv (fun row m => row = ra_row g b → m ≠ ra_mem g b ∧ m ≠ ra_par g b) B g f c) : ra_Inv (fun row m => row = ra_row g b → m ≠ ra_par g b) B g f (ra_put f c (ra_mem g b) (ra_row g b) v) := by
  refine ra_putI (ra_bf hg hb).1 hI (fun _ _ _ => by rw [ra_Dmem hg hb, hv]) (fun row m _ _ h n e => ⟨fun z => n ⟨e, z⟩, h e⟩)
theorem ra_wr3 {B c : Nat → Int32} {g b : Nat} {f v : Int32} (hg : g ≤ 6) (hb : b < ra_sz g) (hv : nI (ra_par g b) ≠ f → v = ra_D B g (ra_par g b) (ra_row g b)) (hI : ra_Inv (fun row m => row = ra_row g b → m ≠ ra_par g b) B g f c) : ra_Inv (fun _ _ => True) B g f (ra_put f c (ra_par g b) (ra_row g b) v) :=
  ra_putI (ra_bf hg hb).1 hI (fun _ _ h => hv h) (fun row m _ _ _ n e z => n ⟨e, z⟩)
theorem ra_lp {B c : Nat → Int32} {g b : Nat} {f v : Int32} (hg : g ≤ 6) (hb : b < ra_sz g) (hI : ra_Inv (fun _ _ => True) B g f c) (hf : nI (ra_par g b) ≠ f) : c (ra_par g b * 12 + ra_row g b) ^^^ (ra_rec f c g b ^^^ v) = ra_D (upd B b v) g (ra_par g b) (ra_row g b) := by
  have hw := (ra_bf hg hb)
  rw [ra_Dpar hg hb, ra_recB hg hb hI (fun _ => trivial), hI (ra_row g b) (ra_par g b) hw.1 trivial (by omega) hf]
end
section
section
variable {xr xb xm xf xj xk xv xp : Int32} {c sg : Nat → Int32}
theorem ra_isComplete {post : Int32 → Prop} {g : Nat} (hg : g ≤ 6) (h1 : g = 6 → post 1) (h0 : g ≠ 6 → post 0) : wpX_isComplete post (xr, xb, nI g, xf, xj, xk, xv, xp, c, sg) := by
  unfold wpX_isComplete
  exact pk_eq g 6 h1 h0
theorem ra_size {post : Int32 → Prop} {g : Nat} (hg : g ≤ 6) (h : post (nI (ra_sz g))) : wpX_size post (xr, xb, nI g, xf, xj, xk, xv, xp, c, sg) := by
  unfold wpX_size
  refine ra_isComplete hg (fun e => br_f (by decide) ?_) (fun e => br_t rfl ?_)
  · unfold ra_sz at h
    rw [if_pos e] at h
    exact h
  · unfold ra_sz at h
    rw [if_neg e] at h
    exact h
theorem ra_isMoved {post : Int32 → Prop} {g b : Nat} (hg : g ≤ 6) (hb : b < 48) (h1 : (g = 6 ∨ b < 4 * g) → post 1) (h0 : ¬ (g = 6 ∨ b < 4 * g) → post 0) : wpX_isMoved post (xr, xb, nI g, xf, xj, xk, xv, xp, c, sg) (nI b) := by
  unfold wpX_isMoved
  exact pk_eq g 6 (fun e => h1 (Or.inl e)) (fun e => pk_le (g * 4) b (fun z => h0 (by omega)) (fun z => h1 (by omega)) (hx := pk_mul g 4))
theorem ra_rowOfBlock {post : Int32 → Prop} {g b : Nat} (hg : g ≤ 6) (hb : b < 48) (h : post (nI (ra_row g b))) : wpX_rowOfBlock post (xr, xb, nI g, xf, xj, xk, xv, xp, c, sg) (nI b) := by
  unfold wpX_rowOfBlock
  unfold ra_row at h
  refine ra_isMoved hg hb (fun e => br_f (by decide) ⟨by decide, ?_⟩) (fun e => br_t rfl ⟨by decide, ?_⟩)
  · rw [if_pos e] at h
    exact ek_v (pk_div (a := b) (d := 4) (by omega) (by omega) (by omega)) h
  · rw [if_neg e] at h
    exact ek_v (pk_div (a := b) (d := 2) (by omega) (by omega) (by omega)) h
theorem ra_memberAt {post : Int32 → Prop} {w row p : Nat} (hw : w = 5 ∨ w = 3) (hr : row < 100) (hp : p < 100) (h : post (nI ((row + p) % w))) : wpX_memberAt post (xr, xb, xm, xf, xj, xk, xv, xp, c, sg) (nI row) (nI w) (nI p) := by
  unfold wpX_memberAt
  refine nm_r (nI_add row p) ?_
  rcases hw with rfl | rfl
  · exact br_t rfl ⟨by decide, ek_v (pk_rem (a := row + p) (d := 5) (by omega) (by omega) (by omega)) h⟩
  · exact br_f (by decide) ⟨by decide, ek_v (pk_rem (a := row + p) (d := 3) (by omega) (by omega) (by omega)) h⟩
theorem ra_memberOfBlock {post : Int32 → Prop} {g b : Nat} (hg : g ≤ 6) (hb : b < 48) (h : post (nI (ra_mem g b))) : wpX_memberOfBlock post (xr, xb, nI g, xf, xj, xk, xv, xp, c, sg) (nI b) := by
  unfold wpX_memberOfBlock
  unfold ra_mem at h
  refine ra_isMoved hg hb (fun e => br_f (by decide) ⟨by decide, by decide, ?_⟩) (fun e => br_t rfl ⟨by decide, by decide, ?_⟩)
  · rw [if_pos e] at h
    have e1 : nI b / 4 = nI (b / 4) := pk_div (a := b) (d := 4) (by omega) (by omega) (by omega)
    have e2 : nI b - nI b / 4 * 4 = nI (b % 4) := pk_rem (a := b) (d := 4) (by omega) (by omega) (by omega)
    rw [e2, e1]
    exact ra_memberAt (w := 5) (Or.inl rfl) (by omega) (by omega) h
  · rw [if_neg e] at h
    have e1 : nI b / 2 = nI (b / 2) := pk_div (a := b) (d := 2) (by omega) (by omega) (by omega)
    have e2 : nI b - nI b / 2 * 2 = nI (b % 2) := pk_rem (a := b) (d := 2) (by omega) (by omega) (by omega)
    rw [e2, e1]
    exact ra_memberAt (w := 3) (Or.inr rfl) (by omega) (by omega) h
theorem ra_parityMemberOfBlock {post : Int32 → Prop} {g b : Nat} (hg : g ≤ 6) (hb : b < 48) (h : post (nI (ra_par g b))) : wpX_parityMemberOfBlock post (xr, xb, nI g, xf, xj, xk, xv, xp, c, sg) (nI b) := by
  unfold wpX_parityMemberOfBlock
  unfold ra_par at h
  refine ra_isMoved hg hb (fun e => br_f (by decide) ⟨by decide, ?_⟩) (fun e => br_t rfl ⟨by decide, ?_⟩)
  · rw [if_pos e] at h
    have e1 : nI b / 4 = nI (b / 4) := pk_div (a := b) (d := 4) (by omega) (by omega) (by omega)
    rw [e1]
    exact ra_memberAt (w := 5) (p := 4) (Or.inl rfl) (by omega) (by omega) h
  · rw [if_neg e] at h
    have e1 : nI b / 2 = nI (b / 2) := pk_div (a := b) (d := 2) (by omega) (by omega) (by omega)
    rw [e1]
    exact ra_memberAt (w := 3) (p := 2) (Or.inr rfl) (by omega) (by omega) h
theorem ra_widthOfBlock {post : Int32 → Prop} {g b : Nat} (hg : g ≤ 6) (hb : b < 48) (h : post (nI (ra_wb g b))) : wpX_widthOfBlock post (xr, xb, nI g, xf, xj, xk, xv, xp, c, sg) (nI b) := by
  unfold wpX_widthOfBlock
  unfold ra_wb at h
  refine ra_isMoved hg hb (fun e => br_f (by decide) ?_) (fun e => br_t rfl ?_)
  · rw [if_pos e] at h
    exact h
  · rw [if_neg e] at h
    exact h
theorem ra_ix (m row : Nat) : nI m * 12 + nI row = nI (m * 12 + row) := by
  rw [show (12 : Int32) = nI 12 from rfl, pk_mul, nI_add]
theorem ra_cellAt {post : Int32 → Prop} {m row : Nat} (hm : m < 5) (hr : row < 12) (h : post (c (m * 12 + row))) : wpX_cellAt post (xr, xb, xm, xf, xj, xk, xv, xp, c, sg) (nI m) (nI row) := by
  unfold wpX_cellAt
  refine ⟨pk_in (m * 12 + row) 60 (by omega) (ra_ix m row), ?_⟩
  rw [pk_cl (m * 12 + row) (ra_ix m row)]
  exact h
theorem ra_combineOthers {post : Int32 → Prop} {f : Int32} {row w : Nat} (hr : row < 12) (hw : w ≤ 5) (h : post (ra_xo (fun m => c (m * 12 + row)) f w)) : wpX_combineOthers post (xr, xb, xm, xf, xj, xk, xv, xp, c, sg) f (nI row) (nI w) := by
  unfold wpX_combineOthers
  refine loop_0 (fun n i (s : Int32) => wX_combineOthers_6 post f (nI row) (nI w) xr xb xm xf xj xk xv xp c sg n s (nI i)) (fun i s => s = ra_xo (fun m => c (m * 12 + row)) f i) w 0 rfl ?_ ?_
  · rintro n s rfl
    exact pk_le w w (fun _ => h) (fun z => by omega)
  · rintro n i s hi rfl ih
    refine pk_le w i (fun z => by omega) (fun _ => ?_)
    refine br_c (fun e => ?_) (fun e => ?_)
    · refine nm_r (nI_1 i) (ih _ ?_)
      show _ = ite _ _ _
      rw [if_pos e]
    · refine ra_cellAt (by omega) hr ?_
      refine nm_e (nm_r (nI_1 i) (ih _ ?_))
      show _ = ite _ _ _
      rw [if_neg e]
theorem ra_recallBlock {post : Int32 → Prop} {g b : Nat} (hg : g ≤ 6) (hb : b < ra_sz g) (h : post (ra_rec xf c g b)) : wpX_recallBlock post (xr, xb, nI g, xf, xj, xk, xv, xp, c, sg) (nI b) := by
  have h48 := ra_szl g
  obtain ⟨h1, h2, h3, h4, h5, h6⟩ := ra_bf hg hb
  unfold wpX_recallBlock
  refine ra_rowOfBlock hg (by omega) (ra_memberOfBlock hg (by omega) ?_)
  unfold ra_rec at h
  refine br_c (fun e => ?_) (fun e => ?_)
  · rw [if_pos e] at h
    exact ra_widthOfBlock hg (by omega) (ra_combineOthers h1 h6 h)
  · rw [if_neg e] at h
    exact ra_cellAt (by omega) h1 h
theorem ra_putCell {post : SX → Prop} {m row : Nat} {v : Int32} (hm : m < 5) (hr : row < 12) (h : post (xr, xb, xm, xf, xj, xk, xv, xp, ra_put xf c m row v, sg)) : wpX_putCell post (xr, xb, xm, xf, xj, xk, xv, xp, c, sg) (nI m) (nI row) v := by
  unfold wpX_putCell
  unfold ra_put at h
  refine br_c (fun e => ?_) (fun e => ⟨pk_in (m * 12 + row) 60 (by omega) (ra_ix m row), ?_⟩)
  · rw [if_pos e] at h
    exact h
  · rw [if_neg e] at h
    rw [pk_cl (m * 12 + row) (ra_ix m row)]
    exact nm_e h
theorem ra_logWrite {post : SX → Prop} {g b : Nat} {v : Int32} (hg : g ≤ 6) (hb : b < ra_sz g) (h : post (xr, xb, nI g, xf, 1, nI b, v, c (ra_par g b * 12 + ra_row g b) ^^^ (ra_rec xf c g b ^^^ v), c, sg)) : wpX_logWrite post (xr, xb, nI g, xf, xj, xk, xv, xp, c, sg) (nI b) v := by
  have h48 := ra_szl g
  obtain ⟨h1, h2, h3, h4, h5, h6⟩ := ra_bf hg hb
  unfold wpX_logWrite
  refine ra_rowOfBlock hg (by omega) (ra_parityMemberOfBlock hg (by omega) (ra_recallBlock hg hb (nm_e ?_)))
  exact ra_cellAt (by omega) h1 (nm_e h)
theorem ra_putLoggedData {post : SX → Prop} {g b : Nat} (hg : g ≤ 6) (hb : b < ra_sz g) (h : post (xr, xb, nI g, xf, xj, nI b, xv, xp, ra_put xf c (ra_mem g b) (ra_row g b) xv, sg)) : wpX_putLoggedData post (xr, xb, nI g, xf, xj, nI b, xv, xp, c, sg) := by
  have h48 := ra_szl g
  obtain ⟨h1, h2, h3, h4, h5, h6⟩ := ra_bf hg hb
  unfold wpX_putLoggedData
  exact ra_rowOfBlock hg (by omega) (ra_memberOfBlock hg (by omega) (ra_putCell (by omega) h1 h))
theorem ra_putLoggedParity {post : SX → Prop} {g b : Nat} (hg : g ≤ 6) (hb : b < ra_sz g) (h : post (xr, xb, nI g, xf, xj, nI b, xv, xp, ra_put xf c (ra_par g b) (ra_row g b) xp, sg)) : wpX_putLoggedParity post (xr, xb, nI g, xf, xj, nI b, xv, xp, c, sg) := by
  have h48 := ra_szl g
  obtain ⟨h1, h2, h3, h4, h5, h6⟩ := ra_bf hg hb
  unfold wpX_putLoggedParity
  exact ra_rowOfBlock hg (by omega) (ra_parityMemberOfBlock hg (by omega) (ra_putCell (by omega) h1 h))
/-- writeUntil, point by point -/
theorem ra_wu0 {post : SX → Prop} {x : Int32} {v : Int32} (h : post (xr, xb, xm, xf, xj, xk, xv, xp, c, sg)) : wpX_writeUntil post (xr, xb, xm, xf, xj, xk, xv, xp, c, sg) x v 0 := by
  unfold wpX_writeUntil
  refine br_t (by decide) ?_
  unfold wX_writeUntil_10
  refine br_t (by decide) ?_
  unfold wX_writeUntil_19
  refine br_t (by decide) ?_
  unfold wX_writeUntil_28
  exact br_t (by decide) h
theorem ra_wu1 {post : SX → Prop} {g b : Nat} {v : Int32} (hg : g ≤ 6) (hb : b < ra_sz g) (h : post (xr, xb, nI g, xf, 1, nI b, v, c (ra_par g b * 12 + ra_row g b) ^^^ (ra_rec xf c g b ^^^ v), c, sg)) : wpX_writeUntil post (xr, xb, nI g, xf, xj, xk, xv, xp, c, sg) (nI b) v 1 := by
  unfold wpX_writeUntil
  refine br_f (by decide) (ra_logWrite hg hb ?_)
  unfold wX_writeUntil_10
  refine br_t (by decide) ?_
  unfold wX_writeUntil_19
  refine br_t (by decide) ?_
  unfold wX_writeUntil_28
  exact br_t (by decide) h
theorem ra_wu2 {post : SX → Prop} {g b : Nat} {v : Int32} (hg : g ≤ 6) (hb : b < ra_sz g) (h : post (xr, xb, nI g, xf, 1, nI b, v, c (ra_par g b * 12 + ra_row g b) ^^^ (ra_rec xf c g b ^^^ v), ra_put xf c (ra_mem g b) (ra_row g b) v, sg)) : wpX_writeUntil post (xr, xb, nI g, xf, xj, xk, xv, xp, c, sg) (nI b) v 2 := by
  unfold wpX_writeUntil
  refine br_f (by decide) (ra_logWrite hg hb ?_)
  unfold wX_writeUntil_10
  refine br_f (by decide) (ra_putLoggedData hg hb ?_)
  unfold wX_writeUntil_19
  refine br_t (by decide) ?_
  unfold wX_writeUntil_28
  exact br_t (by decide) h
theorem ra_wu3 {post : SX → Prop} {g b : Nat} {v : Int32} (hg : g ≤ 6) (hb : b < ra_sz g) (h : post (xr, xb, nI g, xf, 1, nI b, v, c (ra_par g b * 12 + ra_row g b) ^^^ (ra_rec xf c g b ^^^ v), ra_put xf (ra_put xf c (ra_mem g b) (ra_row g b) v) (ra_par g b) (ra_row g b) (c (ra_par g b * 12 + ra_row g b) ^^^ (ra_rec xf c g b ^^^ v)), sg)) : wpX_writeUntil post (xr, xb, nI g, xf, xj, xk, xv, xp, c, sg) (nI b) v 3 := by
  unfold wpX_writeUntil
  refine br_f (by decide) (ra_logWrite hg hb ?_)
  unfold wX_writeUntil_10
  refine br_f (by decide) (ra_putLoggedData hg hb ?_)
  unfold wX_writeUntil_19
  refine br_f (by decide) (ra_putLoggedParity hg hb ?_)
  unfold wX_writeUntil_28
  exact br_t (by decide) h
theorem ra_wu4 {post : SX → Prop} {g b : Nat} {v : Int32} (hg : g ≤ 6) (hb : b < ra_sz g) (h : post (xr, xb, nI g, xf, 0, nI b, v, c (ra_par g b * 12 + ra_row g b) ^^^ (ra_rec xf c g b ^^^ v), ra_put xf (ra_put xf c (ra_mem g b) (ra_row g b) v) (ra_par g b) (ra_row g b) (c (ra_par g b * 12 + ra_row g b) ^^^ (ra_rec xf c g b ^^^ v)), sg)) : wpX_writeUntil post (xr, xb, nI g, xf, xj, xk, xv, xp, c, sg) (nI b) v 4 := by
  unfold wpX_writeUntil
  refine br_f (by decide) (ra_logWrite hg hb ?_)
  unfold wX_writeUntil_10
  refine br_f (by decide) (ra_putLoggedData hg hb ?_)
  unfold wX_writeUntil_19
  refine br_f (by decide) (ra_putLoggedParity hg hb ?_)
  unfold wX_writeUntil_28
  exact br_f (by decide) h
/-- a whole write: every cell holds what it should of the blocks with v at b -/
theorem ra_write {post : SX → Prop} {B : Nat → Int32} {g b : Nat} {v : Int32} (hg : g ≤ 6) (hb : b < ra_sz g) (hI : ra_Inv (fun _ _ => True) B g xf c) (h : ∀ p c', ra_Inv (fun _ _ => True) (upd B b v) g xf c' → post (xr, xb, nI g, xf, 0, nI b, v, p, c', sg)) : wpX_writeUntil post (xr, xb, nI g, xf, xj, xk, xv, xp, c, sg) (nI b) v 4 :=
  ra_wu4 hg hb (h _ _ (ra_wr3 hg hb (fun e => ra_lp hg hb hI e) (ra_wr2 hg hb pk_us.symm (ra_wr1 hg hb hI))))
end
end
section
section
variable {xr xb xm xf xj xk xv xp : Int32} {c sg : Nat → Int32}
theorem ra_saveGroup {post : SX → Prop} {B : Nat → Int32} {g : Nat} (hg : g < 6) (hI : ra_Inv (fun _ _ => True) B g xf c) (h : ∀ s, (∀ i, i < 4 → s i = B (4 * g + i)) → post (xr, xb, nI g, xf, 2, xk, xv, xp, c, s)) : wpX_saveGroup post (xr, xb, nI g, xf, xj, xk, xv, xp, c, sg) := by
  unfold wpX_saveGroup
  refine nm_r (pk_mul g 4) ?_
  refine loop_0 (fun n i (s : Nat → Int32) => wX_saveGroup_9 post (nI (g * 4)) xr xb (nI g) xf xj xk xv xp n (nI i) c s) (fun i s => ∀ j, j < i → s j = B (4 * g + j)) 4 sg (fun j z => by omega) ?_ ?_
  · intro n s hs
    exact pk_le 4 4 (fun _ => h s hs) (fun z => by omega)
  · intro n i s hi hs ih
    refine pk_le 4 i (fun z => by omega) (fun _ => ?_)
    rw [nI_add]
    have hb : g * 4 + i < ra_sz g := by
      unfold ra_sz
      rw [if_neg (by omega)]
      omega
    refine ra_recallBlock (by omega) hb ⟨pk_in i 4 hi, ?_⟩
    rw [pk_cl i, ra_recB (by omega) hb hI (fun _ => trivial)]
    refine nm_e (nm_r (nI_1 i) (ih _ ?_))
    intro j hj
    by_cases e : j = i
    · subst e
      rw [pk_us]
      exact congrArg B (by omega)
    · rw [pk_un e]
      exact hs j (by omega)
/-- the parity of the saved blocks from 'first' on -/
def ra_px (s : Nat → Int32) (first : Nat) : Nat → Int32
  | 0 => 0
  | n + 1 => ra_px s first n ^^^ s (first + n)
def ra_pi (w i : Nat) : Nat := if i < w - 1 then i else w - 1
theorem ra_layStripe {post : SX → Prop} (I : Nat → (Nat → Int32) → Prop) (w row first k : Nat) (hw : w = 5 ∨ w = 3) (hrow : row < 12) (hf : first + (w - 1) ≤ 4) (hk : k ≤ w) (h0 : I 0 c)
    (hs : ∀ i c, i < k → I i c → I (i + 1) (ra_put xf c ((row + i) % w) row (if i < w - 1 then sg (first + i) else ra_px sg first (w - 1))))
    (h : ∀ c', I k c' → post (xr, xb, xm, xf, xj, xk, xv, xp, c', sg)) : wpX_layStripe post (xr, xb, xm, xf, xj, xk, xv, xp, c, sg) (nI row) (nI w) (nI first) (nI k) := by
  unfold wpX_layStripe
  refine nm_r (pk_sub (a := w) (b := 1) (by omega)) ?_
  have hz : ra_px sg first (ra_pi w 0) = 0 := by
    unfold ra_pi
    rw [if_pos (by omega)]
    rfl
  have hm : ∀ i, (row + i) % w < 5 := fun i => by rcases hw with rfl | rfl <;> omega
  obtain ⟨n, hn⟩ := loop_0 (fun n i (s : Nat → Int32) => wX_layStripe_11 post (nI row) (nI w) (nI first) (nI k) (nI (w - 1)) n (ra_px sg first (ra_pi w i)) (nI i) xr xb xm xf xj xk xv xp s sg) I k c h0
    (by
      intro n s hI
      exact pk_le k k (fun _ => h s hI) (fun z => by omega))
    (by
      intro n i s hi hI ih
      refine pk_le k i (fun z => by omega) (fun _ => ?_)
      have hst := hs i s hi hI
      refine pk_le (w - 1) i (fun z => ?_) (fun z => ?_)
      · rw [if_neg (by omega)] at hst
        have e1 : ra_pi w i = w - 1 := if_neg (by omega)
        have e2 : ra_pi w (i + 1) = w - 1 := if_neg (by omega)
        have ih' := ih _ hst
        rw [e2] at ih'
        rw [e1]
        unfold wX_layStripe_47
        exact ra_memberAt hw (by omega) (by omega) (ra_putCell (hm i) hrow (nm_r (nI_1 i) ih'))
      · rw [if_pos z] at hst
        have e1 : ra_pi w i = i := if_pos z
        have e2 : ra_pi w (i + 1) = i + 1 := by
          unfold ra_pi
          split <;> omega
        have ih' := ih _ hst
        rw [e2] at ih'
        rw [e1, nI_add]
        refine ⟨pk_in (first + i) 4 (by omega), ?_⟩
        rw [pk_cl (first + i)]
        refine nm_e (nm_e ?_)
        unfold wX_layStripe_47
        exact ra_memberAt hw (by omega) (by omega) (ra_putCell (hm i) hrow (nm_r (nI_1 i) ih')))
  rw [hz] at hn
  exact ⟨n, hn⟩
theorem ra_px4 (s : Nat → Int32) (a : Nat) : ra_px s a 4 = s a ^^^ (s (a + 1) ^^^ (s (a + 2) ^^^ s (a + 3))) := by
  simp [ra_px, Int32.xor_assoc]
theorem ra_px2 (s : Nat → Int32) (a : Nat) : ra_px s a 2 = s a ^^^ s (a + 1) := by
  simp [ra_px]
/-- a five-wide stripe of the saved blocks -/
theorem ra_lay5 {post : SX → Prop} {R : Nat → Nat → Prop} {B : Nat → Int32} {G row : Nat} (hrow : row < 12) (hw : ra_w G row = 5) (hs : ∀ i, i < 4 → sg i = B (4 * row + i)) (hI : ra_Inv (fun r m => R r m ∧ r ≠ row) B G xf c) (h : ∀ c', ra_Inv R B G xf c' → post (xr, xb, xm, xf, xj, xk, xv, xp, c', sg)) : wpX_layStripe post (xr, xb, xm, xf, xj, xk, xv, xp, c, sg) (nI row) 5 0 5 := by
  refine ra_layStripe (fun i c' => ra_Inv (fun r m => R r m ∧ (r = row → (m + 4 * row) % 5 < i)) B G xf c') 5 row 0 5 (Or.inl rfl) hrow (by omega) (by omega) ?_ ?_ ?_
  · exact ra_IR hI (fun r m _ _ z => ⟨z.1, fun e => absurd (z.2 e) (by omega)⟩)
  · intro i c' hi hI'
    refine ra_putI hrow hI' (fun _ _ _ => ?_) (fun r m _ hm z n => ⟨z.1, fun e => ?_⟩)
    · rw [ra_D5 hw, show ((row + i) % 5 + 4 * row) % 5 = i by omega]
      unfold ra_5
      by_cases e : i = 4
      · rw [if_pos e, if_neg (by omega), ra_px4, hs 0 (by omega), hs (0 + 1) (by omega), hs (0 + 2) (by omega), hs (0 + 3) (by omega)]
        rfl
      · rw [if_neg e, if_pos (by omega), Nat.zero_add, hs i (by omega)]
    · have := z.2 e
      subst e
      have : m ≠ (r + i) % 5 := fun q => n ⟨rfl, q⟩
      omega
  · intro c' hI'
    exact h c' (ra_IR hI' (fun r m _ _ z => ⟨z, fun _ => by omega⟩))
/-- a three-wide stripe of the saved blocks from 'first' on -/
theorem ra_lay3 {post : SX → Prop} {R : Nat → Nat → Prop} {B : Nat → Int32} {G row : Nat} (first : Nat) (hf : first ≤ 2) (hrow : row < 12) (hw : ra_w G row = 3) (hs : ∀ i, i < 2 → sg (first + i) = B (2 * row + i)) (hI : ra_Inv (fun r m => R r m ∧ r ≠ row) B G xf c) (h : ∀ c', ra_Inv R B G xf c' → post (xr, xb, xm, xf, xj, xk, xv, xp, c', sg)) : wpX_layStripe post (xr, xb, xm, xf, xj, xk, xv, xp, c, sg) (nI row) 3 (nI first) 3 := by
  refine ra_layStripe (fun i c' => ra_Inv (fun r m => R r m ∧ (r = row → (m + 2 * row) % 3 < i)) B G xf c') 3 row first 3 (Or.inr rfl) hrow (by omega) (by omega) ?_ ?_ ?_
  · exact ra_IR hI (fun r m _ _ z => ⟨z.1, fun e => absurd (z.2 e) (by omega)⟩)
  · intro i c' hi hI'
    refine ra_putI hrow hI' (fun _ _ _ => ?_) (fun r m _ hm z n => ⟨z.1, fun e => ?_⟩)
    · rw [ra_D3 hw, show ((row + i) % 3 + 2 * row) % 3 = i by omega]
      unfold ra_3
      by_cases e : i = 2
      · rw [if_pos e, if_neg (by omega), ra_px2, hs 1 (by omega), show sg first = B (2 * row) from hs 0 (by omega)]
      · rw [if_neg e, if_pos (by omega), hs i (by omega)]
    · have := z.2 e
      subst e
      have : m ≠ (r + i) % 3 := fun q => n ⟨rfl, q⟩
      omega
  · intro c' hI'
    exact h c' (ra_IR hI' (fun r m _ _ z => ⟨z, fun _ => by omega⟩))
/-- cells written into a row that nothing is asked of -/
theorem ra_layF {post : SX → Prop} {R : Nat → Nat → Prop} {B : Nat → Int32} {G row : Nat} (k : Nat) (hk : k ≤ 5) (hrow : row < 12) (hw : ∀ m, m < ra_w G row → ¬ R row m) (hI : ra_Inv R B G xf c) (h : ∀ c', ra_Inv R B G xf c' → post (xr, xb, xm, xf, xj, xk, xv, xp, c', sg)) : wpX_layStripe post (xr, xb, xm, xf, xj, xk, xv, xp, c, sg) (nI row) 5 0 (nI k) :=
  ra_layStripe (fun i c' => ra_Inv R B G xf c') 5 row 0 k (Or.inl rfl) hrow (by omega) hk hI (fun i c' hi hI' => ra_putI hrow hI' (fun z y _ => absurd z (hw _ y)) (fun r m _ _ z _ => z)) h
theorem ra_clearRow {post : SX → Prop} {row : Nat} (hrow : row < 12) (h : ∀ c', (∀ r m, r < 12 → m < 5 → nI m ≠ xf → c' (m * 12 + r) = if r = row then 0 else c (m * 12 + r)) → post (xr, xb, xm, xf, xj, xk, xv, xp, c', sg)) : wpX_clearRow post (xr, xb, xm, xf, xj, xk, xv, xp, c, sg) (nI row) := by
  unfold wpX_clearRow
  refine loop_0 (fun n i (s : Nat → Int32) => wX_clearRow_2 post (nI row) n (nI i) xr xb xm xf xj xk xv xp s sg) (fun i s => ∀ r m, r < 12 → m < 5 → nI m ≠ xf → s (m * 12 + r) = if r = row ∧ m < i then 0 else c (m * 12 + r)) 5 c ?_ ?_ ?_
  · intro r m _ _ _
    rw [if_neg (by omega)]
  · intro n s hs
    refine pk_le 5 5 (fun _ => h s (fun r m h1 h2 h3 => ?_)) (fun z => by omega)
    rw [hs r m h1 h2 h3]
    by_cases e : r = row
    · rw [if_pos ⟨e, h2⟩, if_pos e]
    · rw [if_neg (fun z => e z.1), if_neg e]
  · intro n i s hi hs ih
    refine pk_le 5 i (fun z => by omega) (fun _ => ?_)
    refine ra_putCell hi hrow (nm_r (nI_1 i) (ih _ ?_))
    intro r m h1 h2 h3
    unfold ra_put
    split
    · rename_i e
      rw [hs r m h1 h2 h3]
      have : m ≠ i := fun z => h3 (z ▸ e)
      by_cases e' : r = row ∧ m < i
      · rw [if_pos e', if_pos (by omega)]
      · rw [if_neg e', if_neg (by omega)]
    · by_cases e : r = row ∧ m = i
      · obtain ⟨rfl, rfl⟩ := e
        rw [pk_us, if_pos (by omega)]
      · rw [pk_un (by omega), hs r m h1 h2 h3]
        by_cases e' : r = row ∧ m < i
        · rw [if_pos e', if_pos (by omega)]
        · rw [if_neg e', if_neg (by omega)]
theorem ra_finishMove {post : SX → Prop} {g : Nat} (hg : g ≤ 6) (h0 : g ≠ 6 → post (xr, xb, nI g, xf, 0, xk, xv, xp, c, sg)) (h1 : g = 6 → ∀ c', (∀ r m, r < 12 → m < 5 → nI m ≠ xf → c' (m * 12 + r) = if 6 ≤ r then 0 else c (m * 12 + r)) → post (xr, xb, nI g, xf, 0, xk, xv, xp, c', sg)) : wpX_finishMove post (xr, xb, nI g, xf, xj, xk, xv, xp, c, sg) := by
  unfold wpX_finishMove
  refine ra_isComplete hg (fun e => br_f (by decide) ?_) (fun e => br_t rfl (h0 e))
  refine pk_loop (fun n i (s : Nat → Int32) => wX_finishMove_10 post n (nI i) xr xb (nI g) xf xj xk xv xp s sg) (fun i s => 6 ≤ i ∧ ∀ r m, r < 12 → m < 5 → nI m ≠ xf → s (m * 12 + r) = if 6 ≤ r ∧ r < i then 0 else c (m * 12 + r)) 12 6 c (by omega) ?_ ?_ ?_
  · refine ⟨by omega, ?_⟩
    intro r m _ _ _
    rw [if_neg (by omega)]
  · rintro n s ⟨_, hs⟩
    refine pk_le 12 12 (fun _ => h1 e s (fun r m h1 h2 h3 => ?_)) (fun z => by omega)
    rw [hs r m h1 h2 h3]
    by_cases e : 6 ≤ r
    · rw [if_pos ⟨e, h1⟩, if_pos e]
    · rw [if_neg (fun z => e z.1), if_neg e]
  · rintro n i s hi ⟨h6, hs⟩ ih
    refine pk_le 12 i (fun z => by omega) (fun _ => ?_)
    refine ra_clearRow hi (fun c' hc => nm_r (nI_1 i) (ih c' ⟨by omega, ?_⟩))
    intro r m h1 h2 h3
    rw [hc r m h1 h2 h3, hs r m h1 h2 h3]
    by_cases e1 : r = i
    · rw [if_pos e1, if_pos (by omega)]
    · rw [if_neg e1]
      by_cases e2 : 6 ≤ r ∧ r < i
      · rw [if_pos e2, if_pos (by omega)]
      · rw [if_neg e2, if_neg (by omega)]
/-- rows that a finished move has still to clear, cleared -/
theorem ra_finish {post : SX → Prop} {B : Nat → Int32} {g : Nat} (hg : g ≤ 6) (hI : ra_Inv (fun r _ => g = 6 → r < 6) B g xf c) (hB : g = 6 → ∀ b, 24 ≤ b → b < 48 → B b = 0) (h : ∀ c', ra_Inv (fun _ _ => True) B g xf c' → post (xr, xb, nI g, xf, 0, xk, xv, xp, c', sg)) : wpX_finishMove post (xr, xb, nI g, xf, xj, xk, xv, xp, c, sg) := by
  refine ra_finishMove hg (fun e => h c (ra_IR hI (fun r m _ _ _ z => absurd z e))) (fun e c' hc => h c' ?_)
  intro row m h1 _ h3 h4
  have hw : ra_w g row = 5 := ra_w5 (Or.inl e)
  rw [hc row m h1 (by omega) h4]
  by_cases e6 : 6 ≤ row
  · rw [if_pos e6, ra_D5 hw]
    unfold ra_5
    split
    · rw [hB e _ (by omega) (by omega), hB e _ (by omega) (by omega), hB e _ (by omega) (by omega), hB e _ (by omega) (by omega)]
      decide
    · rw [hB e _ (by omega) (by omega)]
  · rw [if_neg e6]
    exact hI row m h1 (fun _ => by omega) h3 h4
/-- the blocks once group g has moved -/
def ra_mvB (g : Nat) (B : Nat → Int32) : Nat → Int32 := if g + 1 = 6 then (fun j => if 24 ≤ j ∧ j < 48 then 0 else B j) else B
theorem ra_mvBlo {g j : Nat} {B : Nat → Int32} (h : j < 24) : ra_mvB g B j = B j := by
  unfold ra_mvB
  split
  · exact if_neg (by omega)
  · rfl
theorem ra_mvBhi {g j : Nat} {B : Nat → Int32} (hg : g + 1 = 6) (h : 24 ≤ j) (h2 : j < 48) : ra_mvB g B j = 0 := by
  unfold ra_mvB
  rw [if_pos hg]
  exact if_pos ⟨h, h2⟩
theorem ra_mv1 {B : Nat → Int32} {g : Nat} (hg : g < 6) (hI : ra_Inv (fun _ _ => True) B g xf c) : ra_Inv (fun r _ => (g + 1 = 6 → r < 6) ∧ r ≠ g) (ra_mvB g B) (g + 1) xf c := by
  rintro row m h1 ⟨hA, hB⟩ h3 h4
  rcases ra_wc (g + 1) row with e | e | e
  · have := ra_w5i e
    have e' : ra_w g row = 5 := ra_w5 (by omega)
    rw [hI row m h1 trivial (by omega) h4, ra_D5 e, ra_D5 e']
    exact ra_5c (by omega) (fun j _ _ => (ra_mvBlo (by omega)).symm)
  · have := ra_w3i e
    have e' : ra_w g row = 3 := ra_w3 (by omega) (by omega)
    rw [hI row m h1 trivial (by omega) h4, ra_D3 e, ra_D3 e']
    exact ra_3c (by omega) (fun j _ _ => (ra_mvBlo (by omega)).symm)
  · omega
theorem ra_2g {B : Nat → Int32} {g : Nat} (hI : ra_Inv (fun _ _ => True) B g xf c) : ra_Inv (fun r _ => r ≠ 2 * g ∧ r ≠ 2 * g + 1) B g xf c := ra_IR hI (fun _ _ _ _ _ => trivial)
theorem ra_2gw {g : Nat} (hg : g < 6) : ∀ m, m < ra_w g g → ¬ (g ≠ 2 * g ∧ g ≠ 2 * g + 1) := by
  intro m hm
  rcases ra_wc g g with e | e | e
  · have := ra_w5i e
    omega
  · have := ra_w3i e
    omega
  · omega
/-- moveUntil, point by point -/
theorem ra_mu0 {post : SX → Prop} (h : post (xr, xb, xm, xf, xj, xk, xv, xp, c, sg)) : wpX_moveUntil post (xr, xb, xm, xf, xj, xk, xv, xp, c, sg) 0 := by
  unfold wpX_moveUntil
  refine br_t (by decide) ?_
  unfold wX_moveUntil_8
  refine br_t (by decide) ?_
  unfold wX_moveUntil_35
  refine br_t (by decide) ?_
  unfold wX_moveUntil_55
  exact br_t (by decide) h
theorem ra_mu1 {post : SX → Prop} {B : Nat → Int32} {g : Nat} (hg : g < 6) (hI : ra_Inv (fun _ _ => True) B g xf c) (h : ∀ s c', (∀ i, i < 4 → s i = B (4 * g + i)) → ra_Inv (fun r _ => r ≠ 2 * g ∧ r ≠ 2 * g + 1) B g xf c' → post (xr, xb, nI g, xf, 2, xk, xv, xp, c', s)) : wpX_moveUntil post (xr, xb, nI g, xf, xj, xk, xv, xp, c, sg) 1 := by
  unfold wpX_moveUntil
  refine br_f (by decide) (ra_saveGroup hg hI (fun s hs => ?_))
  unfold wX_moveUntil_8
  refine br_t (by decide) ?_
  unfold wX_moveUntil_35
  refine br_t (by decide) ?_
  unfold wX_moveUntil_55
  exact br_t (by decide) (h s c hs (ra_2g hI))
theorem ra_mu2 {post : SX → Prop} {B : Nat → Int32} {g : Nat} (hg : g < 6) (hI : ra_Inv (fun _ _ => True) B g xf c) (h : ∀ s c', (∀ i, i < 4 → s i = B (4 * g + i)) → ra_Inv (fun r _ => r ≠ 2 * g ∧ r ≠ 2 * g + 1) B g xf c' → post (xr, xb, nI g, xf, 2, xk, xv, xp, c', s)) : wpX_moveUntil post (xr, xb, nI g, xf, xj, xk, xv, xp, c, sg) 2 := by
  unfold wpX_moveUntil
  refine br_f (by decide) (ra_saveGroup hg hI (fun s hs => ?_))
  unfold wX_moveUntil_8
  refine br_f (by decide) (br_t rfl ?_)
  unfold wX_moveUntil_23
  refine ra_layF 3 (by omega) (by omega) (ra_2gw hg) (ra_2g hI) (fun c' hI' => ?_)
  unfold wX_moveUntil_35
  refine br_t (by decide) ?_
  unfold wX_moveUntil_55
  exact br_t (by decide) (h s c' hs hI')
theorem ra_mu3 {post : SX → Prop} {B : Nat → Int32} {g : Nat} (hg : g < 6) (hI : ra_Inv (fun _ _ => True) B g xf c) (h : ∀ s c', (∀ i, i < 4 → s i = B (4 * g + i)) → ra_Inv (fun r _ => r ≠ 2 * g ∧ r ≠ 2 * g + 1) B g xf c' → post (xr, xb, nI g, xf, 2, xk, xv, xp, c', s)) : wpX_moveUntil post (xr, xb, nI g, xf, xj, xk, xv, xp, c, sg) 3 := by
  unfold wpX_moveUntil
  refine br_f (by decide) (ra_saveGroup hg hI (fun s hs => ?_))
  unfold wX_moveUntil_8
  refine br_f (by decide) (br_f (by decide) ?_)
  unfold wX_moveUntil_23
  refine ra_layF 5 (by omega) (by omega) (ra_2gw hg) (ra_2g hI) (fun c' hI' => ?_)
  unfold wX_moveUntil_35
  refine br_t (by decide) ?_
  unfold wX_moveUntil_55
  exact br_t (by decide) (h s c' hs hI')
theorem ra_mu4 {post : SX → Prop} {B : Nat → Int32} {g : Nat} (hg : g < 6) (hI : ra_Inv (fun _ _ => True) B g xf c) (h : ∀ s c', ra_Inv (fun r _ => g + 1 = 6 → r < 6) (ra_mvB g B) (g + 1) xf c' → post (xr, xb, nI (g + 1), xf, 3, xk, xv, xp, c', s)) : wpX_moveUntil post (xr, xb, nI g, xf, xj, xk, xv, xp, c, sg) 4 := by
  unfold wpX_moveUntil
  refine br_f (by decide) (ra_saveGroup hg hI (fun s hs => ?_))
  unfold wX_moveUntil_8
  refine br_f (by decide) (br_f (by decide) ?_)
  unfold wX_moveUntil_23
  refine ra_lay5 (R := fun r _ => g + 1 = 6 → r < 6) (B := ra_mvB g B) (G := g + 1) (by omega) (ra_w5 (by omega)) (fun i hi => (hs i hi).trans (ra_mvBlo (by omega)).symm) (ra_mv1 hg hI) (fun c' hI' => ?_)
  unfold wX_moveUntil_35
  refine br_f (by decide) (nm_r (nI_1 g) ?_)
  unfold wX_moveUntil_55
  exact br_t (by decide) (h s c' hI')
theorem ra_mu5 {post : SX → Prop} {B : Nat → Int32} {g : Nat} (hg : g < 6) (hI : ra_Inv (fun _ _ => True) B g xf c) (h : ∀ s c', ra_Inv (fun _ _ => True) (ra_mvB g B) (g + 1) xf c' → post (xr, xb, nI (g + 1), xf, 0, xk, xv, xp, c', s)) : wpX_moveUntil post (xr, xb, nI g, xf, xj, xk, xv, xp, c, sg) 5 := by
  unfold wpX_moveUntil
  refine br_f (by decide) (ra_saveGroup hg hI (fun s hs => ?_))
  unfold wX_moveUntil_8
  refine br_f (by decide) (br_f (by decide) ?_)
  unfold wX_moveUntil_23
  refine ra_lay5 (R := fun r _ => g + 1 = 6 → r < 6) (B := ra_mvB g B) (G := g + 1) (by omega) (ra_w5 (by omega)) (fun i hi => (hs i hi).trans (ra_mvBlo (by omega)).symm) (ra_mv1 hg hI) (fun c' hI' => ?_)
  unfold wX_moveUntil_35
  refine br_f (by decide) (nm_r (nI_1 g) ?_)
  unfold wX_moveUntil_55
  exact br_f (by decide) (ra_finish (by omega) hI' (fun e b h1 h2 => ra_mvBhi e h1 h2) (fun c'' hI'' => h s c'' hI''))
theorem ra_undoMove {post : SX → Prop} {B : Nat → Int32} {g : Nat} (hg : g < 6) (hs : ∀ i, i < 4 → sg i = B (4 * g + i)) (hI : ra_Inv (fun r _ => r ≠ 2 * g ∧ r ≠ 2 * g + 1) B g xf c) (h : ∀ c', ra_Inv (fun _ _ => True) B g xf c' → post (xr, xb, nI g, xf, xj, xk, xv, xp, c', sg)) : wpX_undoMove post (xr, xb, nI g, xf, xj, xk, xv, xp, c, sg) := by
  unfold wpX_undoMove
  refine nm_r (pk_mul g 2) ?_
  refine ra_lay3 (R := fun r _ => r ≠ 2 * g + 1) (B := B) (G := g) 0 (by omega) (by omega) (ra_w3 (by omega) (by omega)) (fun i hi => ?_) (ra_IR hI (fun r m _ _ z => ⟨by omega, z.1⟩)) (fun c' hI' => ?_)
  · rw [hs (0 + i) (by omega)]
    exact congrArg B (by omega)
  · rw [nI_1]
    refine ra_lay3 (R := fun _ _ => True) (B := B) (G := g) 2 (by omega) (by omega) (ra_w3 (by omega) (by omega)) (fun i hi => ?_) (ra_IR hI' (fun r m _ _ z => by omega)) (fun c'' hI'' => h c'' hI'')
    rw [hs (2 + i) (by omega)]
    exact congrArg B (by omega)
/-- what holds while the power is off -/
def ra_dn (g : Nat) (xf xj xk xv xp : Int32) (c sg B : Nat → Int32) : Prop :=
  (xj = 0 ∧ ra_Inv (fun _ _ => True) B g xf c) ∨
  (xj = 1 ∧ ∃ b, xk = nI b ∧ b < ra_sz g ∧ xv = B b ∧ xp = ra_D B g (ra_par g b) (ra_row g b) ∧ ra_Inv (fun row m => row = ra_row g b → m ≠ ra_mem g b ∧ m ≠ ra_par g b) B g xf c) ∨
  (xj = 2 ∧ g < 6 ∧ (∀ i, i < 4 → sg i = B (4 * g + i)) ∧ ra_Inv (fun r _ => r ≠ 2 * g ∧ r ≠ 2 * g + 1) B g xf c) ∨
  (xj = 3 ∧ (g = 6 → ∀ b, 24 ≤ b → b < 48 → B b = 0) ∧ ra_Inv (fun r _ => g = 6 → r < 6) B g xf c)
theorem ra_recover {post : SX → Prop} {B : Nat → Int32} {g : Nat} (hg : g ≤ 6) (hd : ra_dn g xf xj xk xv xp c sg B) (h : ∀ k v p c', ra_Inv (fun _ _ => True) B g xf c' → post (xr, xb, nI g, xf, 0, k, v, p, c', sg)) : wpX_recover post (xr, xb, nI g, xf, xj, xk, xv, xp, c, sg) := by
  unfold wpX_recover
  rcases hd with ⟨rfl, hI⟩ | ⟨rfl, b, rfl, hb, rfl, rfl, hI⟩ | ⟨rfl, h6, hs, hI⟩ | ⟨rfl, hB, hI⟩
  · exact br_f (by decide) (br_f (by decide) (br_f (by decide) (h _ _ _ _ hI)))
  · exact br_t rfl (ra_putLoggedData hg hb (ra_putLoggedParity hg hb (h _ _ _ _ (ra_wr3 hg hb (fun _ => rfl) (ra_wr2 hg hb rfl hI)))))
  · exact br_f (by decide) (br_t rfl (ra_undoMove h6 hs hI (fun c' hI' => h _ _ _ _ hI')))
  · exact br_f (by decide) (br_f (by decide) (br_t rfl (ra_finish hg hI hB (fun c' hI' => h _ _ _ _ hI'))))
end
end
section
section
variable {xr xb xm xf xj xk xv xp yd yb yl : Int32} {c sg : Nat → Int32}
theorem ra_widthOfRow {post : Int32 → Prop} {g row : Nat} (hg : g ≤ 6) (hr : row < 12) (h : post (nI (ra_w g row))) : wpX_widthOfRow post (xr, xb, nI g, xf, xj, xk, xv, xp, c, sg) (nI row) := by
  unfold wpX_widthOfRow
  refine ra_isComplete hg (fun e => br_f (by decide) ?_) (fun e => br_t rfl (pk_le g row (fun z => pk_lt row (g * 2) (fun y => ?_) (fun y => ?_) (hy := pk_mul g 2)) (fun z => ?_)))
  · rw [ra_w5 (Or.inl e)] at h
    exact h
  · rw [ra_w0 (by omega) (by omega)] at h
    exact h
  · rw [ra_w3 (by omega) (by omega)] at h
    exact h
  · rw [ra_w5 (by omega)] at h
    exact h
theorem ra_rebuildCell {post : SX → Prop} {g m row : Nat} (hg : g ≤ 6) (hm : m < 5) (hr : row < 12) (h : ∀ v, (m < ra_w g row → v = ra_xo (fun m => c (m * 12 + row)) (nI m) (ra_w g row)) → post (xr, xb, nI g, xf, xj, xk, xv, xp, ra_put xf c m row v, sg)) : wpX_rebuildCell post (xr, xb, nI g, xf, xj, xk, xv, xp, c, sg) (nI m) (nI row) := by
  have hw := ra_wle g row
  unfold wpX_rebuildCell
  refine ra_widthOfRow hg hr (pk_le (ra_w g row) m (fun z => ?_) (fun z => ?_))
  · unfold wX_rebuildCell_22
    exact ra_putCell hm hr (h 0 (fun y => by omega))
  · refine ra_combineOthers hr hw ?_
    unfold wX_rebuildCell_22
    exact ra_putCell hm hr (h _ (fun _ => rfl))
theorem ra_failL {post : Int32 → SX → Prop} {B : Nat → Int32} {g m0 : Nat} (hm : m0 < 5) (hI : ra_Inv (fun _ _ => True) B g (-1) c) (h : ∀ c', ra_Inv (fun _ _ => True) B g (nI m0) c' → post 0 (xr, xb, xm, nI m0, xj, xk, xv, xp, c', sg)) : ∃ n, wX_fail_37 post (nI m0) n 0 xr xb xm (-1) xj xk xv xp c sg := by
  refine loop_0 (fun n i (s : Nat → Int32) => wX_fail_37 post (nI m0) n (nI i) xr xb xm (-1) xj xk xv xp s sg) (fun i s => ra_Inv (fun _ _ => True) B g (nI m0) s) 12 c ?_ ?_ ?_
  · intro row m h1 h2 h3 _
    have := ra_wle g row
    exact hI row m h1 h2 h3 (ra_m1 (by omega))
  · intro n s hs
    exact pk_le 12 12 (fun _ => h s hs) (fun z => by omega)
  · intro n i s hi hs ih
    refine pk_le 12 i (fun z => by omega) (fun _ => ?_)
    refine ra_putCell hm hi (nm_r (nI_1 i) (ih _ ?_))
    unfold ra_put
    rw [if_neg (ra_m1 (by omega))]
    exact ra_updI hi hs (fun _ _ z => absurd rfl z) (fun _ _ _ _ _ _ => trivial)
theorem ra_replaceL {post : Int32 → SX → Prop} {B : Nat → Int32} {g m0 : Nat} (hg : g ≤ 6) (hm : m0 < 5) (hI : ra_Inv (fun _ _ => True) B g (nI m0) c) (h : ∀ c', ra_Inv (fun _ _ => True) B g (-1) c' → post (nI m0) (xr, xb, nI g, -1, xj, xk, xv, xp, c', sg)) : ∃ n, wX_replace_32 post (nI m0) n 0 xr xb (nI g) (-1) xj xk xv xp c sg := by
  refine loop_0 (fun n i (s : Nat → Int32) => wX_replace_32 post (nI m0) n (nI i) xr xb (nI g) (-1) xj xk xv xp s sg) (fun i s => ra_Inv (fun row m => m ≠ m0 ∨ row < i) B g (-1) s) 12 c ?_ ?_ ?_
  · intro row m h1 h2 h3 _
    have := ra_wle g row
    refine hI row m h1 trivial h3 (fun z => ?_)
    rw [ra_ne (by omega) (by omega)] at z
    omega
  · intro n s hs
    exact pk_le 12 12 (fun _ => h s (ra_IR hs (fun row m a _ _ => Or.inr a))) (fun z => by omega)
  · intro n i s hi hs ih
    refine pk_le 12 i (fun z => by omega) (fun _ => ?_)
    refine ra_rebuildCell hg hm hi (fun v hv => nm_r (nI_1 i) (ih _ ?_))
    refine ra_putI hi hs (fun _ a _ => ?_) (fun row m _ _ z y => by omega)
    rw [hv a]
    exact ra_xD a (fun m b d => hs i m hi (Or.inl d) b (ra_m1 (by have := ra_wle g i; omega)))
theorem ra_scrubL {post : Int32 → Prop} {B : Nat → Int32} {g : Nat} (hg : g ≤ 6) (hI : ra_Inv (fun _ _ => True) B g (-1) c) (h : post 0) : ∃ n, wX_scrub_24 post xr xb (nI g) xf xj xk xv xp c sg n 0 0 := by
  refine loop_0 (fun n i (s : Int32) => wX_scrub_24 post xr xb (nI g) xf xj xk xv xp c sg n s (nI i)) (fun i s => s = 0) 12 0 rfl ?_ ?_
  · rintro n s rfl
    exact pk_le 12 12 (fun _ => h) (fun z => by omega)
  · rintro n i s hi rfl ih
    refine pk_le 12 i (fun z => by omega) (fun _ => ?_)
    have hw := ra_wle g i
    refine ra_widthOfRow hg hi (ra_combineOthers hi hw (br_t ?_ (nm_r (nI_1 i) (ih _ rfl))))
    exact ra_xDz (fun m hm => ra_m1 (by omega)) (fun m hm => hI i m hi trivial hm (ra_m1 (by omega)))
def ra_sum (B : Nat → Int32) : Nat → Int32
  | 0 => 0
  | n + 1 => ra_sum B n + B n
theorem ra_sumX {post : Int32 → Prop} {B : Nat → Int32} {g : Nat} (hg : g ≤ 6) (hI : ra_Inv (fun _ _ => True) B g xf c) (h : post (ra_sum B (ra_sz g))) : ∃ n, wX_sum_18 post (nI (ra_sz g)) xr xb (nI g) xf xj xk xv xp c sg n 0 0 := by
  have h48 := ra_szl g
  refine loop_0 (fun n i (s : Int32) => wX_sum_18 post (nI (ra_sz g)) xr xb (nI g) xf xj xk xv xp c sg n s (nI i)) (fun i s => s = ra_sum B i) (ra_sz g) 0 rfl ?_ ?_
  · rintro n s rfl
    exact pk_le (ra_sz g) (ra_sz g) (fun _ => h) (fun z => by omega)
  · rintro n i s hi rfl ih
    refine pk_le (ra_sz g) i (fun z => by omega) (fun _ => ?_)
    refine ra_recallBlock hg hi ?_
    rw [ra_recB hg hi hI (fun _ => trivial)]
    exact nm_e (nm_r (nI_1 i) (ih _ rfl))
theorem ra_sizeY {post : Int32 → Prop} {B : Nat → Int32} {g : Nat} (hg : g ≤ 6) (h : post (nI (ra_sz g))) : wpY_size post (yd, yb, nI g, yl, B) := by
  unfold wpY_size
  unfold ra_sz at h
  refine pk_eq g 6 (fun e => ?_) (fun e => ?_)
  · rw [if_pos e] at h
    exact h
  · rw [if_neg e] at h
    exact h
theorem ra_sumY {post : Int32 → Prop} {B : Nat → Int32} {g : Nat} (hg : g ≤ 6) (h : post (ra_sum B (ra_sz g))) : ∃ n, wY_sum_13 post yd yb (nI g) yl B n 0 0 := by
  have h48 := ra_szl g
  refine loop_0 (fun n i (s : Int32) => wY_sum_13 post yd yb (nI g) yl B n s (nI i)) (fun i s => s = ra_sum B i) (ra_sz g) 0 rfl ?_ ?_
  · rintro n s rfl
    rw [wY_sum_13]
    exact ra_sizeY hg (pk_le (ra_sz g) (ra_sz g) (fun _ => h) (fun z => by omega))
  · rintro n i s hi rfl ih
    rw [wY_sum_13]
    refine ra_sizeY hg (pk_le (ra_sz g) i (fun z => by omega) (fun _ => pk_le 48 i (fun z => by omega) (fun _ => ⟨pk_in i 48 (by omega), ?_⟩)))
    rw [pk_cl i]
    exact nm_e (nm_r (nI_1 i) (ih _ rfl))
/-- the blocks after i blocks of a fill -/
def ra_fB (B : Nat → Int32) (b : Nat) (v st : Int32) (i : Nat) : Nat → Int32 := fun j => if b ≤ j ∧ j < b + i then v + st * nI (j - b) else B j
theorem ra_fB0 (B : Nat → Int32) (b : Nat) (v st : Int32) : ra_fB B b v st 0 = B := by
  funext j
  exact if_neg (by omega)
theorem ra_fBs (B : Nat → Int32) (b : Nat) (v st : Int32) (i : Nat) : upd (ra_fB B b v st i) (b + i) (v + st * nI i) = ra_fB B b v st (i + 1) := by
  funext j
  unfold ra_fB upd
  dsimp only
  by_cases e : j = b + i
  · subst e
    rw [if_pos rfl, if_pos (by omega), show b + i - b = i by omega]
  · rw [if_neg e]
    by_cases e2 : b ≤ j ∧ j < b + i
    · rw [if_pos e2, if_pos (by omega)]
    · rw [if_neg e2, if_neg (by omega)]
theorem ra_ms (v st : Int32) (i : Nat) : v + st * nI i + st = v + st * nI (i + 1) := by
  rw [← nI_1, Int32.mul_add, Int32.mul_one, Int32.add_assoc]
theorem ra_fillX {post : Int32 → SX → Prop} {B : Nat → Int32} {g b cnt : Nat} {v st : Int32} (hg : g ≤ 6) (hb : b + cnt ≤ ra_sz g) (h : ∀ k w p c', ra_Inv (fun _ _ => True) (ra_fB B b v st cnt) g xf c' → post 0 (xr, xb, nI g, xf, 0, k, w, p, c', sg)) : ∀ (d i : Nat), i + d = cnt → ∀ (xk xv xp : Int32) (c : Nat → Int32), ra_Inv (fun _ _ => True) (ra_fB B b v st i) g xf c → wX_fill_46 post (nI b) (nI cnt) st (d + 1) (v + st * nI i) (nI i) xr xb (nI g) xf 0 xk xv xp c sg := by
  have h48 := ra_szl g
  intro d
  induction d with
  | zero =>
    intro i hi xk xv xp c hI
    have e : i = cnt := by omega
    subst e
    exact pk_le i i (fun _ => h _ _ _ _ hI) (fun z => by omega)
  | succ d ih =>
    intro i hi xk xv xp c hI
    refine pk_le cnt i (fun z => by omega) (fun _ => ?_)
    rw [nI_add]
    refine ra_write hg (by omega) hI (fun p c' hI' => ?_)
    rw [ra_fBs] at hI'
    exact nm_r (ra_ms v st i) (nm_r (nI_1 i) (ih (i + 1) (by omega) _ _ _ _ hI'))
def ra_fi (b cnt k : Nat) : Nat := if k ≤ b then 0 else if k - b ≤ cnt then k - b else cnt
theorem ra_fillY {post : Int32 → SY → Prop} {B : Nat → Int32} {b cnt : Nat} {v st : Int32} (hb : b + cnt ≤ 48) (h : post 0 (yd, yb, xm, yl, ra_fB B b v st cnt)) : ∃ n, wY_fill_43 post (nI b) (nI cnt) v st yd yb xm yl n 0 B := by
  refine loop_0 (fun n i (s : Nat → Int32) => wY_fill_43 post (nI b) (nI cnt) v st yd yb xm yl n (nI i) s) (fun i s => s = ra_fB B b v st (ra_fi b cnt i)) 48 B ?_ ?_ ?_
  · unfold ra_fi
    rw [if_pos (by omega)]
    exact (ra_fB0 B b v st).symm
  · rintro n s rfl
    refine pk_le 48 48 (fun _ => ?_) (fun z => by omega)
    have e : ra_fi b cnt 48 = cnt := by
      unfold ra_fi
      split
      · omega
      · split <;> omega
    rw [e]
    exact h
  · rintro n i s hi rfl ih
    refine pk_le 48 i (fun z => by omega) (fun _ => ?_)
    refine pk_lt i b (fun z => nm_r (nI_1 i) (ih _ ?_)) (fun z => ?_)
    · unfold ra_fi
      rw [if_pos (by omega), if_pos (by omega)]
    · refine pk_le (b + cnt) i (fun y => nm_r (nI_1 i) (ih _ ?_)) (fun y => ⟨pk_in i 48 hi, ?_⟩) (hx := nI_add b cnt)
      · have e1 : ra_fi b cnt i = cnt := by
          unfold ra_fi
          split
          · omega
          · split <;> omega
        have e2 : ra_fi b cnt (i + 1) = cnt := by
          unfold ra_fi
          split
          · omega
          · split <;> omega
        rw [e1, e2]
      · rw [pk_cl i, pk_sub z]
        refine nm_e (nm_r (nI_1 i) (ih _ ?_))
        have e1 : ra_fi b cnt i = i - b := by
          unfold ra_fi
          split
          · omega
          · split <;> omega
        have e2 : ra_fi b cnt (i + 1) = i - b + 1 := by
          unfold ra_fi
          split
          · omega
          · split <;> omega
        rw [e1, e2]
        have := ra_fBs B b v st (i - b)
        rw [show b + (i - b) = i by omega] at this
        exact this
theorem ra_moveY {post : SY → Prop} {B : Nat → Int32} {g : Nat} (hg : g < 6) (h : post (yd, yb, nI (g + 1), yl, ra_mvB g B)) : wpY_move post (yd, yb, nI g, yl, B) := by
  unfold wpY_move
  refine nm_r (nI_1 g) (pk_eq (g + 1) 6 (fun e => ?_) (fun e => ?_))
  · refine pk_loop (fun n i (s : Nat → Int32) => wY_move_22 post yd yb (nI (g + 1)) yl n (nI i) s) (fun i s => 24 ≤ i ∧ s = fun j => if 24 ≤ j ∧ j < i then 0 else B j) 48 24 B (by omega) ⟨by omega, ?_⟩ ?_ ?_
    · funext j
      exact (if_neg (by omega)).symm
    · rintro n s ⟨_, rfl⟩
      refine pk_le 48 48 (fun _ => ?_) (fun z => by omega)
      unfold ra_mvB at h
      rw [if_pos e] at h
      exact h
    · rintro n i s hi ⟨h24, rfl⟩ ih
      refine pk_le 48 i (fun z => by omega) (fun _ => ⟨pk_in i 48 hi, ?_⟩)
      rw [pk_cl i]
      refine nm_e (nm_r (nI_1 i) (ih _ ⟨by omega, ?_⟩))
      funext j
      unfold upd
      dsimp only
      by_cases e1 : j = i
      · rw [if_pos e1, if_pos (by omega)]
      · rw [if_neg e1]
        by_cases e2 : 24 ≤ j ∧ j < i
        · rw [if_pos e2, if_pos (by omega)]
        · rw [if_neg e2, if_neg (by omega)]
  · unfold ra_mvB at h
    rw [if_neg e] at h
    exact h
theorem ra_isBlockN {post : Int32 → Prop} {g : Nat} {x : Int32} (hg : g ≤ 6) (hx : x < 0 ∨ nI (ra_sz g) ≤ x) (h : post 0) : wpX_isBlock post (xr, xb, nI g, xf, xj, xk, xv, xp, c, sg) x := by
  unfold wpX_isBlock
  refine br_c (fun _ => h) (fun e => ra_size hg (br_t (hx.resolve_left e) h))
theorem ra_isBlockY {post : Int32 → Prop} {g b : Nat} (hg : g ≤ 6) (hb : b < ra_sz g) (h : post 1) : wpX_isBlock post (xr, xb, nI g, xf, xj, xk, xv, xp, c, sg) (nI b) := by
  have h48 := ra_szl g
  unfold wpX_isBlock
  exact br_f (nI_pos (by omega)) (ra_size hg (pk_le (ra_sz g) b (fun z => by omega) (fun _ => h)))
theorem ra_noBlockN {post : Int32 → Prop} {B : Nat → Int32} {g : Nat} {x : Int32} (hg : g ≤ 6) (hx : x < 0 ∨ nI (ra_sz g) ≤ x) (h : post 1) : wpY_noBlock post (yd, yb, nI g, yl, B) x := by
  unfold wpY_noBlock
  refine br_c (fun _ => h) (fun e => ra_sizeY hg (br_t (hx.resolve_left e) h))
theorem ra_noBlockY {post : Int32 → Prop} {B : Nat → Int32} {g b : Nat} (hg : g ≤ 6) (hb : b < ra_sz g) (h : post 0) : wpY_noBlock post (yd, yb, nI g, yl, B) (nI b) := by
  have h48 := ra_szl g
  unfold wpY_noBlock
  exact br_f (nI_pos (by omega)) (ra_sizeY hg (pk_le (ra_sz g) b (fun z => by omega) (fun _ => pk_lt b 48 (fun _ => h) (fun z => by omega))))
end
end
section
theorem ra_D0 (g m row : Nat) : ra_D (fun _ => 0) g m row = 0 := by
  unfold ra_D ra_5 ra_3
  split
  · split
    · dsimp only
      decide
    · rfl
  · split
    · dsimp only
      decide
    · rfl
theorem ra_szg (g : Nat) : 24 ≤ ra_sz g := by
  unfold ra_sz
  split <;> omega
def i_Rel (k : Nat) (u : SX) (v : SY) : Prop := ∃ (g : Nat) (xr xb xf xj xk xv xp yd : Int32) (c sg B : Nat → Int32), u = (xr, xb, nI g, xf, xj, xk, xv, xp, c, sg) ∧ v = (yd, xb, nI g, xf, B) ∧ g ≤ 6 ∧ (xf = -1 ∨ ∃ f, f < 5 ∧ xf = nI f) ∧ ((xr = 1 ∧ yd = 0 ∧ xj = 0 ∧ ra_Inv (fun _ _ => True) B g xf c) ∨ (xr = 0 ∧ yd = 1 ∧ ra_dn g xf xj xk xv xp c sg B))
theorem i_up {k : Nat} {u : SX} {v : SY} (h : i_Rel k u v) : i_Rel (k + 5) u v := h
theorem i_vc0 : wpX_init (fun u => wpY_init (fun v => i_Rel 0 u v)) := by
  unfold wpX_init wpY_init
  exact ⟨0, 1, 0, -1, 0, 0, 0, 0, 0, _, _, _, rfl, rfl, by omega, Or.inl rfl, Or.inl ⟨rfl, rfl, rfl, fun row m _ _ _ _ => (ra_D0 0 m row).symm⟩⟩
theorem ra_Up {k g : Nat} {xb xf xk xv xp : Int32} {c sg B : Nat → Int32} (hg : g ≤ 6) (hf : xf = -1 ∨ ∃ f, f < 5 ∧ xf = nI f) (hI : ra_Inv (fun _ _ => True) B g xf c) : i_Rel k (1, xb, nI g, xf, 0, xk, xv, xp, c, sg) (0, xb, nI g, xf, B) :=
  ⟨g, 1, xb, xf, 0, xk, xv, xp, 0, c, sg, B, rfl, rfl, hg, hf, Or.inl ⟨rfl, rfl, rfl, hI⟩⟩
theorem ra_Dn {k g : Nat} {xb xf xj xk xv xp : Int32} {c sg B : Nat → Int32} (hg : g ≤ 6) (hf : xf = -1 ∨ ∃ f, f < 5 ∧ xf = nI f) (hd : ra_dn g xf xj xk xv xp c sg B) : i_Rel k (0, xb, nI g, xf, xj, xk, xv, xp, c, sg) (1, xb, nI g, xf, B) :=
  ⟨g, 0, xb, xf, xj, xk, xv, xp, 1, c, sg, B, rfl, rfl, hg, hf, Or.inr ⟨rfl, rfl, hd⟩⟩
theorem i_vc_up {k : Nat} {u : SX} {v : SY} (I : i_Rel k u v) (hk : k + 5 ≤ 2560) : wpX_up (fun r => wpY_up (fun r' => r' = r ∧ i_Rel (k + 5) u v) v) u := by
  have J := i_up I
  obtain ⟨g, xr, xb, xf, xj, xk, xv, xp, yd, c, sg, B, rfl, rfl, hg, hf, ⟨rfl, rfl, rfl, hI⟩ | ⟨rfl, rfl, hd⟩⟩ := I
  · unfold wpX_up wpY_up
    exact br_f (by decide) (br_t rfl ⟨rfl, J⟩)
  · unfold wpX_up wpY_up
    exact br_t rfl (br_f (by decide) ⟨rfl, J⟩)
theorem i_vc_size {k : Nat} {u : SX} {v : SY} (I : i_Rel k u v) (hk : k + 5 ≤ 2560) : wpX_size (fun r => wpY_size (fun r' => r' = r ∧ i_Rel (k + 5) u v) v) u := by
  have J := i_up I
  obtain ⟨g, xr, xb, xf, xj, xk, xv, xp, yd, c, sg, B, rfl, rfl, hg, hf, _⟩ := I
  exact ra_size hg (ra_sizeY hg ⟨rfl, J⟩)
theorem i_vc_members {k : Nat} {u : SX} {v : SY} (I : i_Rel k u v) (hk : k + 5 ≤ 2560) : wpX_members (fun r => wpY_members (fun r' => r' = r ∧ i_Rel (k + 5) u v) v) u := by
  have J := i_up I
  obtain ⟨g, xr, xb, xf, xj, xk, xv, xp, yd, c, sg, B, rfl, rfl, hg, hf, _⟩ := I
  unfold wpX_members wpY_members
  exact br_c (fun e => br_t e ⟨rfl, J⟩) (fun e => br_f e ⟨rfl, J⟩)
theorem i_vc_failed {k : Nat} {u : SX} {v : SY} (I : i_Rel k u v) (hk : k + 5 ≤ 2560) : wpX_failed (fun r => wpY_failed (fun r' => r' = r ∧ i_Rel (k + 5) u v) v) u := by
  have J := i_up I
  obtain ⟨g, xr, xb, xf, xj, xk, xv, xp, yd, c, sg, B, rfl, rfl, hg, hf, _⟩ := I
  exact ⟨rfl, J⟩
theorem i_vc_growth {k : Nat} {u : SX} {v : SY} (I : i_Rel k u v) (hk : k + 5 ≤ 2560) : wpX_growth (fun r => wpY_growth (fun r' => r' = r ∧ i_Rel (k + 5) u v) v) u := by
  have J := i_up I
  obtain ⟨g, xr, xb, xf, xj, xk, xv, xp, yd, c, sg, B, rfl, rfl, hg, hf, _⟩ := I
  unfold wpX_growth wpY_growth
  exact br_c (fun e => br_t e ⟨rfl, J⟩) (fun e => ra_isComplete hg (fun e6 => br_f (by decide) (br_f e (pk_eq g 6 (fun _ => ⟨rfl, J⟩) (fun z => absurd e6 z)))) (fun e6 => br_t rfl (br_f e (pk_eq g 6 (fun z => absurd z e6) (fun _ => ⟨rfl, J⟩)))))
theorem i_vc_groups {k : Nat} {u : SX} {v : SY} (I : i_Rel k u v) (hk : k + 5 ≤ 2560) : wpX_groups (fun r => wpY_groups (fun r' => r' = r ∧ i_Rel (k + 5) u v) v) u := by
  have J := i_up I
  obtain ⟨g, xr, xb, xf, xj, xk, xv, xp, yd, c, sg, B, rfl, rfl, hg, hf, _⟩ := I
  exact ⟨rfl, J⟩
theorem i_vc_read {k : Nat} {u : SX} {v : SY} (I : i_Rel k u v) (hk : k + 5 ≤ 2560) (v1 : Int32) : wpX_read (fun r => wpY_read (fun r' => r' = r ∧ i_Rel (k + 5) u v) v v1) u v1 := by
  have J := i_up I
  obtain ⟨g, xr, xb, xf, xj, xk, xv, xp, yd, c, sg, B, rfl, rfl, hg, hf, ⟨rfl, rfl, rfl, hI⟩ | ⟨rfl, rfl, hd⟩⟩ := I
  · have h48 := ra_szl g
    unfold wpX_read wpY_read
    refine br_f (by decide) ?_
    rcases pk_ix v1 (n := ra_sz g) (by omega) with h | h | ⟨b, hb, rfl⟩
    · exact ra_isBlockN hg (Or.inl h) (br_t rfl (br_t rfl (ra_noBlockN hg (Or.inl h) (br_f (by decide) ⟨rfl, J⟩))))
    · exact ra_isBlockN hg (Or.inr h) (br_t rfl (br_t rfl (ra_noBlockN hg (Or.inr h) (br_f (by decide) ⟨rfl, J⟩))))
    · refine ra_isBlockY hg hb (br_f (by decide) (ra_recallBlock hg hb (br_t rfl (ra_noBlockY hg hb (br_t rfl ⟨pk_in b 48 (by omega), ?_, J⟩)))))
      rw [pk_cl b, ra_recB hg hb hI (fun _ => trivial)]
  · unfold wpX_read wpY_read
    exact br_t rfl (br_f (by decide) ⟨rfl, J⟩)
theorem i_vc_sum {k : Nat} {u : SX} {v : SY} (I : i_Rel k u v) (hk : k + 5 ≤ 2560) : wpX_sum (fun r => wpY_sum (fun r' => r' = r ∧ i_Rel (k + 5) u v) v) u := by
  have J := i_up I
  obtain ⟨g, xr, xb, xf, xj, xk, xv, xp, yd, c, sg, B, rfl, rfl, hg, hf, ⟨rfl, rfl, rfl, hI⟩ | ⟨rfl, rfl, hd⟩⟩ := I
  · unfold wpX_sum wpY_sum
    exact br_f (by decide) (ra_size hg (ra_sumX hg hI (br_t rfl (ra_sumY hg ⟨rfl, J⟩))))
  · unfold wpX_sum wpY_sum
    exact br_t rfl (br_f (by decide) ⟨rfl, J⟩)
theorem i_vc_write {k : Nat} {u : SX} {v : SY} (I : i_Rel k u v) (hk : k + 5 ≤ 2560) (v1 : Int32) (v2 : Int32) : wpX_write (fun r u' => wpY_write (fun r' v' => r' = r ∧ i_Rel (k + 5) u' v') v v1 v2) u v1 v2 := by
  have J := i_up I
  obtain ⟨g, xr, xb, xf, xj, xk, xv, xp, yd, c, sg, B, rfl, rfl, hg, hf, ⟨rfl, rfl, rfl, hI⟩ | ⟨rfl, rfl, hd⟩⟩ := I
  · have h48 := ra_szl g
    unfold wpX_write wpY_write
    refine br_f (by decide) ?_
    rcases pk_ix v1 (n := ra_sz g) (by omega) with h | h | ⟨b, hb, rfl⟩
    · exact ra_isBlockN hg (Or.inl h) (br_t rfl (br_t rfl (ra_noBlockN hg (Or.inl h) (br_f (by decide) ⟨rfl, J⟩))))
    · exact ra_isBlockN hg (Or.inr h) (br_t rfl (br_t rfl (ra_noBlockN hg (Or.inr h) (br_f (by decide) ⟨rfl, J⟩))))
    · refine ra_isBlockY hg hb (br_f (by decide) (ra_write hg hb hI (fun p c' hI' => br_t rfl (ra_noBlockY hg hb (br_t rfl ⟨pk_in b 48 (by omega), ?_⟩)))))
      rw [pk_cl b]
      exact nm_e ⟨rfl, ra_Up hg hf hI'⟩
  · unfold wpX_write wpY_write
    exact br_t rfl (br_f (by decide) ⟨rfl, J⟩)
theorem i_vc_fill {k : Nat} {u : SX} {v : SY} (I : i_Rel k u v) (hk : k + 5 ≤ 2560) (v1 : Int32) (v2 : Int32) (v3 : Int32) (v4 : Int32) : wpX_fill (fun r u' => wpY_fill (fun r' v' => r' = r ∧ i_Rel (k + 5) u' v') v v1 v2 v3 v4) u v1 v2 v3 v4 := by
  have J := i_up I
  obtain ⟨g, xr, xb, xf, xj, xk, xv, xp, yd, c, sg, B, rfl, rfl, hg, hf, ⟨rfl, rfl, rfl, hI⟩ | ⟨rfl, rfl, hd⟩⟩ := I
  · have h48 := ra_szl g
    have h24 := ra_szg g
    unfold wpX_fill wpY_fill
    refine br_f (by decide) ?_
    refine br_c (fun e1 => br_t rfl (br_t e1 ⟨rfl, J⟩)) (fun e1 => ?_)
    refine br_c (fun e2 => ?_) (fun e2 => br_t rfl (br_f e1 (br_f e2 ⟨rfl, J⟩)))
    refine br_c (fun e3 => br_t rfl (br_f e1 (br_t e2 (br_t e3 ⟨rfl, J⟩)))) (fun e3 => ?_)
    refine ra_size hg (br_c (fun e4 => ?_) (fun e4 => br_t rfl (br_f e1 (br_t e2 (br_f e3 (ra_sizeY hg (br_f e4 ⟨rfl, J⟩)))))))
    obtain ⟨cnt, hc, rfl⟩ := nI_of2 (x := v2) (M := 24) (n := 24) (by decide) (fun z => e1 (Int32.lt_trans z (by decide))) e2
    obtain ⟨b, hb, rfl⟩ := nI_of e3
    have hbc : b + cnt ≤ ra_sz g := by
      have e5 := e4
      rw [pk_sub (by omega)] at e5
      have := (nI_leI (by omega) (by omega)).mp e5
      omega
    have q0 : v3 + v4 * nI 0 = v3 := by rw [nI_0, Int32.mul_zero, Int32.add_zero]
    refine ⟨cnt + 1, ?_⟩
    have Z := ra_fillX (xr := 1) (xb := xb) (xf := xf) (sg := sg) (B := B) (g := g) (b := b) (cnt := cnt) (v := v3) (st := v4) (post := fun r u' => wpY_fill (fun r' v' => r' = r ∧ i_Rel (k + 5) u' v') (0, xb, nI g, xf, B) (nI b) (nI cnt) v3 v4) hg hbc (fun k w p c' hI' => by
      unfold wpY_fill
      exact br_t rfl (br_f e1 (br_t e2 (br_f e3 (ra_sizeY hg (br_t e4 (ra_fillY (by omega) ⟨rfl, ra_Up hg hf hI'⟩))))))) cnt 0 (by omega) xk xv xp c (by rw [ra_fB0]; exact hI)
    rw [q0] at Z
    exact Z
  · unfold wpX_fill wpY_fill
    exact br_t rfl (br_f (by decide) ⟨rfl, J⟩)
theorem ra_lostN {f : Nat} (h : f < 5) : ¬ nI f < 0 := nI_pos (by omega)
theorem i_vc_writeCrash {k : Nat} {u : SX} {v : SY} (I : i_Rel k u v) (hk : k + 5 ≤ 2560) (v1 : Int32) (v2 : Int32) (v3 : Int32) : wpX_writeCrash (fun r u' => wpY_writeCrash (fun r' v' => r' = r ∧ i_Rel (k + 5) u' v') v v1 v2 v3) u v1 v2 v3 := by
  have J := i_up I
  obtain ⟨g, xr, xb, xf, xj, xk, xv, xp, yd, c, sg, B, rfl, rfl, hg, hf, ⟨rfl, rfl, rfl, hI⟩ | ⟨rfl, rfl, hd⟩⟩ := I
  · have h48 := ra_szl g
    unfold wpX_writeCrash wpY_writeCrash
    refine br_f (by decide) ?_
    rcases pk_ix v1 (n := ra_sz g) (by omega) with h | h | ⟨b, hb, rfl⟩
    · exact ra_isBlockN hg (Or.inl h) (br_t rfl (br_t rfl (ra_noBlockN hg (Or.inl h) (br_f (by decide) ⟨rfl, J⟩))))
    · exact ra_isBlockN hg (Or.inr h) (br_t rfl (br_t rfl (ra_noBlockN hg (Or.inr h) (br_f (by decide) ⟨rfl, J⟩))))
    · refine ra_isBlockY hg hb (br_f (by decide) ?_)
      refine br_c (fun e1 => br_t rfl (ra_noBlockY hg hb (br_t rfl (br_t e1 ⟨rfl, J⟩)))) (fun e1 => ?_)
      refine br_c (fun e2 => ?_) (fun e2 => br_t rfl (ra_noBlockY hg hb (br_t rfl (br_f e1 (br_f e2 ⟨rfl, J⟩)))))
      rcases hf with rfl | ⟨f, hf5, rfl⟩
      · refine br_t rfl ?_
        have hv : b < 48 := by omega
        obtain ⟨p, hp, rfl⟩ := nI_of2 (x := v3) (M := 3) (n := 3) (by decide) e1 e2
        have hpc : p = 0 ∨ p = 1 ∨ p = 2 ∨ p = 3 := by omega
        have W1 := ra_wr1 (v := v2) hg hb hI
        have W2 := ra_wr2 hg hb pk_us.symm W1
        have hm : nI (ra_par g b) ≠ -1 := ra_m1 (by have := ra_bf hg hb; omega)
        have hl := ra_lp (v := v2) hg hb hI hm
        have W3 := ra_wr3 hg hb (fun _ => hl) W2
        rcases hpc with rfl | rfl | rfl | rfl
        · exact ra_wu0 (br_t rfl (ra_noBlockY hg hb (br_t rfl (br_f e1 (br_t e2 (br_t (by decide) (br_t (by decide) ⟨rfl, ra_Dn hg (Or.inl rfl) (Or.inl ⟨rfl, hI⟩)⟩)))))))
        · refine ra_wu1 hg hb (br_t rfl (ra_noBlockY hg hb (br_t rfl (br_f e1 (br_t e2 (br_t (by decide) (br_f (by decide) ⟨pk_in b 48 hv, ?_⟩)))))))
          rw [pk_cl b]
          exact nm_e ⟨rfl, ra_Dn hg (Or.inl rfl) (Or.inr (Or.inl ⟨rfl, b, rfl, hb, pk_us.symm, hl, W1⟩))⟩
        · refine ra_wu2 hg hb (br_t rfl (ra_noBlockY hg hb (br_t rfl (br_f e1 (br_t e2 (br_t (by decide) (br_f (by decide) ⟨pk_in b 48 hv, ?_⟩)))))))
          rw [pk_cl b]
          exact nm_e ⟨rfl, ra_Dn hg (Or.inl rfl) (Or.inr (Or.inl ⟨rfl, b, rfl, hb, pk_us.symm, hl, ra_IR W2 (fun r m _ _ z e => (z e).2)⟩))⟩
        · refine ra_wu3 hg hb (br_t rfl (ra_noBlockY hg hb (br_t rfl (br_f e1 (br_t e2 (br_t (by decide) (br_f (by decide) ⟨pk_in b 48 hv, ?_⟩)))))))
          rw [pk_cl b]
          exact nm_e ⟨rfl, ra_Dn hg (Or.inl rfl) (Or.inr (Or.inl ⟨rfl, b, rfl, hb, pk_us.symm, hl, ra_IR W3 (fun r m _ _ z => trivial)⟩))⟩
      · exact br_f (ra_m1 (by omega)) (br_t rfl (ra_noBlockY hg hb (br_t rfl (br_f e1 (br_t e2 (br_f (ra_lostN hf5) ⟨rfl, J⟩))))))
  · unfold wpX_writeCrash wpY_writeCrash
    exact br_t rfl (br_f (by decide) ⟨rfl, J⟩)
theorem i_vc_begin {k : Nat} {u : SX} {v : SY} (I : i_Rel k u v) (hk : k + 5 ≤ 2560) : wpX_begin (fun r u' => wpY_begin (fun r' v' => r' = r ∧ i_Rel (k + 5) u' v') v) u := by
  have J := i_up I
  obtain ⟨g, xr, xb, xf, xj, xk, xv, xp, yd, c, sg, B, rfl, rfl, hg, hf, ⟨rfl, rfl, rfl, hI⟩ | ⟨rfl, rfl, hd⟩⟩ := I
  · unfold wpX_begin wpY_begin
    refine br_f (by decide) (br_c (fun e => ?_) (fun e => br_t rfl (br_f e ⟨rfl, J⟩)))
    rcases hf with rfl | ⟨f, hf5, rfl⟩
    · exact br_t rfl (br_t rfl (br_t e (br_t (by decide) ⟨rfl, ra_Up hg (Or.inl rfl) hI⟩)))
    · exact br_f (ra_m1 (by omega)) (br_t rfl (br_t e (br_f (ra_lostN hf5) ⟨rfl, J⟩)))
  · unfold wpX_begin wpY_begin
    exact br_t rfl (br_f (by decide) ⟨rfl, J⟩)
section
variable {xr xb xm xf xj xk xv xp yd yb yl : Int32} {c sg B : Nat → Int32}
theorem ra_isGrowingY {post : Int32 → Prop} {g : Nat} (hg : g < 6) (hb : ¬ xb = 0) (h : post 1) : wpX_isGrowing post (xr, xb, nI g, xf, xj, xk, xv, xp, c, sg) := by
  unfold wpX_isGrowing
  exact br_f hb (ra_isComplete (by omega) (fun e => by omega) (fun _ => br_t rfl h))
theorem ra_isGrowingN {post : Int32 → Prop} {g : Nat} (hg : g ≤ 6) (hb : xb = 0 ∨ g = 6) (h : post 0) : wpX_isGrowing post (xr, xb, nI g, xf, xj, xk, xv, xp, c, sg) := by
  unfold wpX_isGrowing
  exact br_c (fun _ => h) (fun e => ra_isComplete hg (fun _ => br_f (by decide) h) (fun z => absurd (hb.resolve_left e) z))
theorem ra_growthY {post : Int32 → Prop} {g : Nat} (hg : g < 6) (hb : ¬ yb = 0) (h : post 1) : wpY_growth post (yd, yb, nI g, yl, B) := by
  unfold wpY_growth
  exact br_f hb (pk_eq g 6 (fun e => by omega) (fun _ => h))
theorem ra_growthN {post : Int32 → Prop} {g : Nat} (hg : g ≤ 6) (hb : yb = 0 ∨ g = 6) (h0 : post 0) (h2 : post 2) : wpY_growth post (yd, yb, nI g, yl, B) := by
  unfold wpY_growth
  exact br_c (fun _ => h0) (fun e => pk_eq g 6 (fun _ => h2) (fun z => absurd (hb.resolve_left e) z))
end
theorem i_vc_step {k : Nat} {u : SX} {v : SY} (I : i_Rel k u v) (hk : k + 5 ≤ 2560) : wpX_step (fun r u' => wpY_step (fun r' v' => r' = r ∧ i_Rel (k + 5) u' v') v) u := by
  have J := i_up I
  obtain ⟨g, xr, xb, xf, xj, xk, xv, xp, yd, c, sg, B, rfl, rfl, hg, hf, ⟨rfl, rfl, rfl, hI⟩ | ⟨rfl, rfl, hd⟩⟩ := I
  · unfold wpX_step wpY_step
    refine br_f (by decide) ?_
    by_cases e : xb = 0 ∨ g = 6
    · exact ra_isGrowingN hg e (br_t rfl (br_t rfl (ra_growthN hg e (br_f (by decide) ⟨rfl, J⟩) (br_f (by decide) ⟨rfl, J⟩))))
    · have e1 : ¬ xb = 0 := fun z => e (Or.inl z)
      have e2 : g < 6 := by omega
      exact ra_isGrowingY e2 e1 (br_f (by decide) (ra_mu5 e2 hI (fun s c' hI' => br_t rfl (ra_growthY e2 e1 (br_t rfl (ra_moveY e2 ⟨rfl, ra_Up (by omega) hf hI'⟩))))))
  · unfold wpX_step wpY_step
    exact br_t rfl (br_f (by decide) ⟨rfl, J⟩)
theorem i_vc_stepCrash {k : Nat} {u : SX} {v : SY} (I : i_Rel k u v) (hk : k + 5 ≤ 2560) (v1 : Int32) : wpX_stepCrash (fun r u' => wpY_stepCrash (fun r' v' => r' = r ∧ i_Rel (k + 5) u' v') v v1) u v1 := by
  have J := i_up I
  obtain ⟨g, xr, xb, xf, xj, xk, xv, xp, yd, c, sg, B, rfl, rfl, hg, hf, ⟨rfl, rfl, rfl, hI⟩ | ⟨rfl, rfl, hd⟩⟩ := I
  · unfold wpX_stepCrash wpY_stepCrash
    refine br_f (by decide) ?_
    by_cases e : xb = 0 ∨ g = 6
    · exact ra_isGrowingN hg e (br_t rfl (br_t rfl (ra_growthN hg e (br_f (by decide) ⟨rfl, J⟩) (br_f (by decide) ⟨rfl, J⟩))))
    · have e1 : ¬ xb = 0 := fun z => e (Or.inl z)
      have e2 : g < 6 := by omega
      refine ra_isGrowingY e2 e1 (br_f (by decide) ?_)
      refine br_c (fun a1 => br_t rfl (ra_growthY e2 e1 (br_t rfl (br_t a1 ⟨rfl, J⟩)))) (fun a1 => ?_)
      refine br_c (fun a2 => ?_) (fun a2 => br_t rfl (ra_growthY e2 e1 (br_t rfl (br_f a1 (br_f a2 ⟨rfl, J⟩)))))
      obtain ⟨p, hp, rfl⟩ := nI_of2 (x := v1) (M := 4) (n := 4) (by decide) a1 a2
      have hpc : p = 0 ∨ p = 1 ∨ p = 2 ∨ p = 3 ∨ p = 4 := by omega
      rcases hpc with rfl | rfl | rfl | rfl | rfl
      · exact ra_mu0 (br_t rfl (ra_growthY e2 e1 (br_t rfl (br_f a1 (br_t a2 (br_f (by decide) ⟨rfl, ra_Dn hg hf (Or.inl ⟨rfl, hI⟩)⟩))))))
      · exact ra_mu1 e2 hI (fun s c' hs hI' => br_t rfl (ra_growthY e2 e1 (br_t rfl (br_f a1 (br_t a2 (br_f (by decide) ⟨rfl, ra_Dn hg hf (Or.inr (Or.inr (Or.inl ⟨rfl, e2, hs, hI'⟩)))⟩))))))
      · exact ra_mu2 e2 hI (fun s c' hs hI' => br_t rfl (ra_growthY e2 e1 (br_t rfl (br_f a1 (br_t a2 (br_f (by decide) ⟨rfl, ra_Dn hg hf (Or.inr (Or.inr (Or.inl ⟨rfl, e2, hs, hI'⟩)))⟩))))))
      · exact ra_mu3 e2 hI (fun s c' hs hI' => br_t rfl (ra_growthY e2 e1 (br_t rfl (br_f a1 (br_t a2 (br_f (by decide) ⟨rfl, ra_Dn hg hf (Or.inr (Or.inr (Or.inl ⟨rfl, e2, hs, hI'⟩)))⟩))))))
      · exact ra_mu4 e2 hI (fun s c' hI' => br_t rfl (ra_growthY e2 e1 (br_t rfl (br_f a1 (br_t a2 (br_t rfl (ra_moveY e2 ⟨rfl, ra_Dn (by omega) hf (Or.inr (Or.inr (Or.inr ⟨rfl, fun z b h1 h2 => ra_mvBhi z h1 h2, hI'⟩)))⟩)))))))
  · unfold wpX_stepCrash wpY_stepCrash
    exact br_t rfl (br_f (by decide) ⟨rfl, J⟩)
theorem i_vc_crash {k : Nat} {u : SX} {v : SY} (I : i_Rel k u v) (hk : k + 5 ≤ 2560) : wpX_crash (fun r u' => wpY_crash (fun r' v' => r' = r ∧ i_Rel (k + 5) u' v') v) u := by
  have J := i_up I
  obtain ⟨g, xr, xb, xf, xj, xk, xv, xp, yd, c, sg, B, rfl, rfl, hg, hf, ⟨rfl, rfl, rfl, hI⟩ | ⟨rfl, rfl, hd⟩⟩ := I
  · unfold wpX_crash wpY_crash
    exact br_f (by decide) (br_t rfl ⟨rfl, ra_Dn hg hf (Or.inl ⟨rfl, hI⟩)⟩)
  · unfold wpX_crash wpY_crash
    exact br_t rfl (br_f (by decide) ⟨rfl, J⟩)
theorem i_vc_mount {k : Nat} {u : SX} {v : SY} (I : i_Rel k u v) (hk : k + 5 ≤ 2560) : wpX_mount (fun r u' => wpY_mount (fun r' v' => r' = r ∧ i_Rel (k + 5) u' v') v) u := by
  have J := i_up I
  obtain ⟨g, xr, xb, xf, xj, xk, xv, xp, yd, c, sg, B, rfl, rfl, hg, hf, ⟨rfl, rfl, rfl, hI⟩ | ⟨rfl, rfl, hd⟩⟩ := I
  · unfold wpX_mount wpY_mount
    exact br_f (by decide) (br_t rfl ⟨rfl, J⟩)
  · unfold wpX_mount wpY_mount
    exact br_t rfl (ra_recover hg hd (fun k' v' p' c' hI' => br_f (by decide) ⟨rfl, ra_Up hg hf hI'⟩))
theorem i_vc_fail {k : Nat} {u : SX} {v : SY} (I : i_Rel k u v) (hk : k + 5 ≤ 2560) (v1 : Int32) : wpX_fail (fun r u' => wpY_fail (fun r' v' => r' = r ∧ i_Rel (k + 5) u' v') v v1) u v1 := by
  have J := i_up I
  obtain ⟨g, xr, xb, xf, xj, xk, xv, xp, yd, c, sg, B, rfl, rfl, hg, hf, ⟨rfl, rfl, rfl, hI⟩ | ⟨rfl, rfl, hd⟩⟩ := I
  · unfold wpX_fail wpY_fail wpX_members wpY_members
    refine br_f (by decide) (br_c (fun a1 => br_t rfl (br_t a1 ⟨rfl, J⟩)) (fun a1 => ?_))
    obtain ⟨m, _, rfl⟩ := nI_of a1
    refine br_c (fun e => ?_) (fun e => ?_)
    · refine pk_lt m 3 (fun hm => ?_) (fun hm => br_t rfl (br_f a1 (br_t e (pk_lt m 3 (fun z => by omega) (fun _ => ⟨rfl, J⟩)))))
      rcases hf with rfl | ⟨f, hf5, rfl⟩
      · exact br_t rfl (ra_failL (by omega) hI (fun c' hI' => br_t rfl (br_f a1 (br_t e (pk_lt m 3 (fun _ => br_t (by decide) ⟨rfl, ra_Up hg (Or.inr ⟨m, by omega, rfl⟩) hI'⟩) (fun z => by omega))))))
      · exact br_f (ra_m1 (by omega)) (br_t rfl (br_f a1 (br_t e (pk_lt m 3 (fun _ => br_f (ra_lostN hf5) ⟨rfl, J⟩) (fun z => by omega)))))
    · refine pk_lt m 5 (fun hm => ?_) (fun hm => br_t rfl (br_f a1 (br_f e (pk_lt m 5 (fun z => by omega) (fun _ => ⟨rfl, J⟩)))))
      rcases hf with rfl | ⟨f, hf5, rfl⟩
      · exact br_t rfl (ra_failL (by omega) hI (fun c' hI' => br_t rfl (br_f a1 (br_f e (pk_lt m 5 (fun _ => br_t (by decide) ⟨rfl, ra_Up hg (Or.inr ⟨m, by omega, rfl⟩) hI'⟩) (fun z => by omega))))))
      · exact br_f (ra_m1 (by omega)) (br_t rfl (br_f a1 (br_f e (pk_lt m 5 (fun _ => br_f (ra_lostN hf5) ⟨rfl, J⟩) (fun z => by omega)))))
  · unfold wpX_fail wpY_fail
    exact br_t rfl (br_f (by decide) ⟨rfl, J⟩)
theorem i_vc_replace {k : Nat} {u : SX} {v : SY} (I : i_Rel k u v) (hk : k + 5 ≤ 2560) : wpX_replace (fun r u' => wpY_replace (fun r' v' => r' = r ∧ i_Rel (k + 5) u' v') v) u := by
  have J := i_up I
  obtain ⟨g, xr, xb, xf, xj, xk, xv, xp, yd, c, sg, B, rfl, rfl, hg, hf, ⟨rfl, rfl, rfl, hI⟩ | ⟨rfl, rfl, hd⟩⟩ := I
  · unfold wpX_replace wpY_replace
    rcases hf with rfl | ⟨f, hf5, rfl⟩
    · exact br_f (by decide) (br_t rfl (br_t rfl (br_f (by decide) ⟨rfl, J⟩)))
    · exact br_f (by decide) (br_f (ra_m1 (by omega)) (ra_replaceL hg hf5 hI (fun c' hI' => br_t rfl (br_t (nI_pos' (by omega)) ⟨rfl, ra_Up hg (Or.inl rfl) hI'⟩))))
  · unfold wpX_replace wpY_replace
    exact br_t rfl (br_f (by decide) ⟨rfl, J⟩)
theorem i_vc_scrub {k : Nat} {u : SX} {v : SY} (I : i_Rel k u v) (hk : k + 5 ≤ 2560) : wpX_scrub (fun r => wpY_scrub (fun r' => r' = r ∧ i_Rel (k + 5) u v) v) u := by
  have J := i_up I
  obtain ⟨g, xr, xb, xf, xj, xk, xv, xp, yd, c, sg, B, rfl, rfl, hg, hf, ⟨rfl, rfl, rfl, hI⟩ | ⟨rfl, rfl, hd⟩⟩ := I
  · unfold wpX_scrub wpY_scrub
    rcases hf with rfl | ⟨f, hf5, rfl⟩
    · exact br_f (by decide) (br_t rfl (ra_scrubL hg hI (br_t rfl (br_t (by decide) ⟨rfl, J⟩))))
    · exact br_f (by decide) (br_f (ra_m1 (by omega)) (br_t rfl (br_f (ra_lostN hf5) ⟨rfl, J⟩)))
  · unfold wpX_scrub wpY_scrub
    exact br_t rfl (br_f (by decide) ⟨rfl, J⟩)
end
