/-! ===== walks: what is meant ===== -/
/-- numbers of four lanes of three bits -/
def hz (a b c d : Nat) : Nat := a + 8 * (b + 8 * (c + 8 * d))
theorem and8 {A B r s : Nat} (hr : r < 8) (hs : s < 8) : (r + 8 * A) &&& (s + 8 * B) = (r &&& s) + 8 * (A &&& B) := by
  have h1 : ((r + 8 * A) &&& (s + 8 * B)) % 2 ^ 3 = (r &&& s) := by
    rw [Nat.and_mod_two_pow, show (r + 8 * A) % 2 ^ 3 = r by omega, show (s + 8 * B) % 2 ^ 3 = s by omega]
  have h2 : ((r + 8 * A) &&& (s + 8 * B)) / 2 ^ 3 = (A &&& B) := by
    rw [Nat.and_div_two_pow, show (r + 8 * A) / 2 ^ 3 = A by omega, show (s + 8 * B) / 2 ^ 3 = B by omega]
  omega
theorem or8 {A B r s : Nat} (hr : r < 8) (hs : s < 8) : (r + 8 * A) ||| (s + 8 * B) = (r ||| s) + 8 * (A ||| B) := by
  have h1 : ((r + 8 * A) ||| (s + 8 * B)) % 2 ^ 3 = (r ||| s) := by
    rw [Nat.or_mod_two_pow, show (r + 8 * A) % 2 ^ 3 = r by omega, show (s + 8 * B) % 2 ^ 3 = s by omega]
  have h2 : ((r + 8 * A) ||| (s + 8 * B)) / 2 ^ 3 = (A ||| B) := by
    rw [Nat.or_div_two_pow, show (r + 8 * A) / 2 ^ 3 = A by omega, show (s + 8 * B) / 2 ^ 3 = B by omega]
  omega
theorem hz_and {a b c d a' b' c' d' : Nat} (ha : a < 8) (hb : b < 8) (hc : c < 8) (ha' : a' < 8) (hb' : b' < 8) (hc' : c' < 8) : hz a b c d &&& hz a' b' c' d' = hz (a &&& a') (b &&& b') (c &&& c') (d &&& d') := by
  unfold hz; rw [and8 ha ha', and8 hb hb', and8 hc hc']
theorem hz_or {a b c d a' b' c' d' : Nat} (ha : a < 8) (hb : b < 8) (hc : c < 8) (ha' : a' < 8) (hb' : b' < 8) (hc' : c' < 8) : hz a b c d ||| hz a' b' c' d' = hz (a ||| a') (b ||| b') (c ||| c') (d ||| d') := by
  unfold hz; rw [or8 ha ha', or8 hb hb', or8 hc hc']
theorem lan_hz (x : Nat) : lanP x 4 = hz (val x 0) (val x 1) (val x 2) (val x 3) := by
  show (((0 + val x 0 * 1) + val x 1 * 8) + val x 2 * 64) + val x 3 * 512 = _
  unfold hz; omega
theorem says_hz (x y : Nat) : saysP x y 4 = hz (sgn (val x 0) (val y 0)) (sgn (val x 1) (val y 1)) (sgn (val x 2) (val y 2)) (sgn (val x 3) (val y 3)) := by
  show (((0 + sgn (val x 0) (val y 0) * 1) + sgn (val x 1) (val y 1) * 8) + sgn (val x 2) (val y 2) * 64) + sgn (val x 3) (val y 3) * 512 = _
  unfold hz; omega
/-- 1 if the first digit is not the lesser one -/
def nls (a b : Nat) : Nat := if b ≤ a then 1 else 0
theorem lane1 : ∀ a, a < 4 → ∀ b, b < 4 → (a ||| 4 = a + 4) ∧ ((a + 4 - b) &&& 4 = 4 * nls a b) ∧ (2 * nls a b ||| 4 * nls b a ||| (nls a b &&& nls b a) = sgn a b) ∧ nls a b < 2 ∧ a + 4 - b < 8 := by decide +kernel
theorem nl_hz (x y : Nat) : ((lanP x 4 ||| 2340) - lanP y 4) &&& 2340 = 4 * hz (nls (val x 0) (val y 0)) (nls (val x 1) (val y 1)) (nls (val x 2) (val y 2)) (nls (val x 3) (val y 3)) ∧ lanP y 4 ≤ (lanP x 4 ||| 2340) := by
  have a0 := val_lt x 0
  have a1 := val_lt x 1
  have a2 := val_lt x 2
  have a3 := val_lt x 3
  have b0 := val_lt y 0
  have b1 := val_lt y 1
  have b2 := val_lt y 2
  have b3 := val_lt y 3
  rw [lan_hz, lan_hz]
  obtain ⟨o0, n0, _, _, l0⟩ := lane1 _ a0 _ b0
  obtain ⟨o1, n1, _, _, l1⟩ := lane1 _ a1 _ b1
  obtain ⟨o2, n2, _, _, l2⟩ := lane1 _ a2 _ b2
  obtain ⟨o3, n3, _, _, l3⟩ := lane1 _ a3 _ b3
  have e : (hz (val x 0) (val x 1) (val x 2) (val x 3) ||| 2340) = hz (val x 0 + 4) (val x 1 + 4) (val x 2 + 4) (val x 3 + 4) := by
    rw [show 2340 = hz 4 4 4 4 from rfl, hz_or (by omega) (by omega) (by omega) (by decide) (by decide) (by decide), o0, o1, o2, o3]
  rw [e]
  have e2 : hz (val x 0 + 4) (val x 1 + 4) (val x 2 + 4) (val x 3 + 4) - hz (val y 0) (val y 1) (val y 2) (val y 3) = hz (val x 0 + 4 - val y 0) (val x 1 + 4 - val y 1) (val x 2 + 4 - val y 2) (val x 3 + 4 - val y 3) := by unfold hz; omega
  refine ⟨?_, by unfold hz; omega⟩
  rw [e2, show 2340 = hz 4 4 4 4 from rfl, hz_and l0 l1 l2 (by decide) (by decide) (by decide), n0, n1, n2, n3]
  unfold hz; omega
theorem shp_hz (x y : Nat) : (2 * hz (nls (val x 0) (val y 0)) (nls (val x 1) (val y 1)) (nls (val x 2) (val y 2)) (nls (val x 3) (val y 3)) ||| 4 * hz (nls (val y 0) (val x 0)) (nls (val y 1) (val x 1)) (nls (val y 2) (val x 2)) (nls (val y 3) (val x 3)) ||| (hz (nls (val x 0) (val y 0)) (nls (val x 1) (val y 1)) (nls (val x 2) (val y 2)) (nls (val x 3) (val y 3)) &&& hz (nls (val y 0) (val x 0)) (nls (val y 1) (val x 1)) (nls (val y 2) (val x 2)) (nls (val y 3) (val x 3)))) = saysP x y 4 := by
  have L : ∀ v, (2 * nls (val x v) (val y v) ||| 4 * nls (val y v) (val x v) ||| (nls (val x v) (val y v) &&& nls (val y v) (val x v)) = sgn (val x v) (val y v)) ∧ nls (val x v) (val y v) < 2 ∧ nls (val y v) (val x v) < 2 := fun v => ⟨(lane1 _ (val_lt x v) _ (val_lt y v)).2.2.1, (lane1 _ (val_lt x v) _ (val_lt y v)).2.2.2.1, (lane1 _ (val_lt y v) _ (val_lt x v)).2.2.2.1⟩
  obtain ⟨q0, c0, d0⟩ := L 0
  obtain ⟨q1, c1, d1⟩ := L 1
  obtain ⟨q2, c2, d2⟩ := L 2
  obtain ⟨q3, c3, d3⟩ := L 3
  rw [says_hz, ← q0, ← q1, ← q2, ← q3]
  generalize nls (val x 0) (val y 0) = n0 at *
  generalize nls (val x 1) (val y 1) = n1 at *
  generalize nls (val x 2) (val y 2) = n2 at *
  generalize nls (val x 3) (val y 3) = n3 at *
  generalize nls (val y 0) (val x 0) = m0 at *
  generalize nls (val y 1) (val x 1) = m1 at *
  generalize nls (val y 2) (val x 2) = m2 at *
  generalize nls (val y 3) (val x 3) = m3 at *
  have e1 : 2 * hz n0 n1 n2 n3 = hz (2 * n0) (2 * n1) (2 * n2) (2 * n3) := by unfold hz; omega
  have e2 : 4 * hz m0 m1 m2 m3 = hz (4 * m0) (4 * m1) (4 * m2) (4 * m3) := by unfold hz; omega
  have k8 : ∀ n m : Nat, n < 2 → m < 2 → (2 * n ||| 4 * m) < 8 := by
    intro n m hn hm
    exact Nat.or_lt_two_pow (n := 3) (by omega) (by omega)
  have k2 : ∀ n m : Nat, m < 2 → (n &&& m) < 8 := by
    intro n m hm
    have := Nat.and_lt_two_pow n (y := m) (n := 1) (by omega)
    omega
  rw [e1, e2, hz_or (by omega) (by omega) (by omega) (by omega) (by omega) (by omega), hz_and (by omega) (by omega) (by omega) (by omega) (by omega) (by omega), hz_or (k8 _ _ c0 d0) (k8 _ _ c1 d1) (k8 _ _ c2 d2) (k2 _ _ d0) (k2 _ _ d1) (k2 _ _ d2)]
theorem hz_lt {a b c d : Nat} (ha : a < 8) (hb : b < 8) (hc : c < 8) (hd : d < 8) : hz a b c d < 4096 := by unfold hz; omega
theorem p_shapeOf {σ : St} (h1 : CX1 σ) (a b : Nat) : f_X1_shapeOf (nI a) (nI b) σ = some (nI (saysP (a % 256) (b % 256) 4)) := by
  have ha := Nat.mod_lt a (show 0 < 256 by decide)
  have hb := Nat.mod_lt b (show 0 < 256 by decide)
  have e255 : ∀ n, nI n &&& (255 : Int32) = nI (n % 256) := fun n => fa_mask n 8
  unfold f_X1_shapeOf
  rw [e255, e255, inb_nI ha (by decide), chk_t, nI_clamp (by omega), (h1 _ ha).2, nm_, inb_nI hb (by decide), chk_t, nI_clamp (by omega), (h1 _ hb).2, nm_, nm_, nm_, L2340, fa_or, fa_or]
  obtain ⟨n1, l1⟩ := nl_hz (a % 256) (b % 256)
  obtain ⟨n2, l2⟩ := nl_hz (b % 256) (a % 256)
  rw [pk_sub l1, pk_sub l2, fa_and, fa_and, n1, n2, ← shp_hz]
  generalize hN : hz (nls (val (a % 256) 0) (val (b % 256) 0)) (nls (val (a % 256) 1) (val (b % 256) 1)) (nls (val (a % 256) 2) (val (b % 256) 2)) (nls (val (a % 256) 3) (val (b % 256) 3)) = N
  generalize hM : hz (nls (val (b % 256) 0) (val (a % 256) 0)) (nls (val (b % 256) 1) (val (a % 256) 1)) (nls (val (b % 256) 2) (val (a % 256) 2)) (nls (val (b % 256) 3) (val (a % 256) 3)) = M
  have l : ∀ x y, nls x y < 8 := fun x y => by unfold nls; split <;> decide
  have hN2 : N < 4096 := by rw [← hN]; exact hz_lt (l _ _) (l _ _) (l _ _) (l _ _)
  have hM2 : M < 4096 := by rw [← hM]; exact hz_lt (l _ _) (l _ _) (l _ _) (l _ _)
  have a4 : (4 * N &&& 4 * M) = 4 * (N &&& M) := by
    have := and_sh (4 * N) M 2
    rw [show M * 2 ^ 2 = 4 * M by omega, show 4 * N / 2 ^ 2 = N by omega, show (N &&& M) * 2 ^ 2 = 4 * (N &&& M) by omega] at this
    exact this
  have hNM : (N &&& M) < 4096 := Nat.and_lt_two_pow N (y := M) (n := 12) hM2
  rw [fa_and, a4, pk_shrN (by omega) _ 1 (by decide), pk_shrN (by omega) _ 2 (by decide), fa_or, fa_or, show 4 * N / 2 ^ 1 = 2 * N by omega, show 4 * (N &&& M) / 2 ^ 2 = (N &&& M) by omega]
/-- who moves -/
def mvr (W : Nat → Nat → Nat) (a b : Nat) : Nat := if a = 12 then (if b = 12 then 3 else 2) else if b = 12 then 1 else W a b
abbrev WAc : Type := (Nat → Int32) × (Nat → Int32) × Int32
/-- a PAIR stands at a PLACE -/
def stn (j : Nat) (v : Int32) (Z : WAc) : WAc := ((fun i => if i = j then Z.1 i &&& v else Z.1 i), (fun i => if i = j then 1 else Z.2.1 i), Z.2.2)
section WK
variable (P Q : Pg) (W : Nat → Nat → Nat) (x y : Nat)
def wmo (t : Nat × Nat) : Nat := mvr W (ps P x t.1 / 256) (ps Q y t.2 / 256)
def wst (t : Nat × Nat) (Z : WAc) : WAc := stn (13 * (ps P x t.1 / 256) + ps Q y t.2 / 256) (nI (saysP (ps P x t.1 % 256) (ps Q y t.2 % 256) 4)) Z
def wps : Nat → Nat × Nat
  | 0 => (0, 0)
  | k + 1 => if wmo P Q W x y (wps k) = 3 then wps k else ((if wmo P Q W x y (wps k) = 2 then (wps k).1 else (wps k).1 + 1), (if wmo P Q W x y (wps k) = 1 then (wps k).2 else (wps k).2 + 1))
def wac (Z : WAc) : Nat → WAc
  | 0 => wst P Q x y (0, 0) Z
  | k + 1 => if wmo P Q W x y (wps P Q W x y k) = 3 then wac Z k else wst P Q x y (wps P Q W x y (k + 1)) (wac Z k)
def wmv : Nat → Nat
  | 0 => 0
  | k + 1 => if wmo P Q W x y (wps P Q W x y k) = 3 then wmv k else wmv k + 1
/-- what a PAIR's walk makes of it -/
def wpr (Z : WAc) : WAc := ((wac P Q W x y Z 48).1, (wac P Q W x y Z 48).2.1, mmax (wac P Q W x y Z 48).2.2 (nI (wmv P Q W x y 48)))
theorem w_stay {k : Nat} (h : wmo P Q W x y (wps P Q W x y k) = 3) (Z : WAc) : ∀ d, wps P Q W x y (k + d) = wps P Q W x y k ∧ wac P Q W x y Z (k + d) = wac P Q W x y Z k ∧ wmv P Q W x y (k + d) = wmv P Q W x y k := by
  intro d
  induction d with
  | zero => exact ⟨rfl, rfl, rfl⟩
  | succ d ih =>
    obtain ⟨a, b, c⟩ := ih
    have h' : wmo P Q W x y (wps P Q W x y (k + d)) = 3 := by rw [a]; exact h
    refine ⟨?_, ?_, ?_⟩
    · show wps P Q W x y (k + d + 1) = _; rw [wps, if_pos h', a]
    · show wac P Q W x y Z (k + d + 1) = _; rw [wac, if_pos h', b]
    · show wmv P Q W x y (k + d + 1) = _; rw [wmv, if_pos h', c]
theorem w_go {k : Nat} (h : ∀ i, i < k → wmo P Q W x y (wps P Q W x y i) ≠ 3) : wmv P Q W x y k = k := by
  induction k with
  | zero => rfl
  | succ k ih => rw [wmv, if_neg (h k (by omega)), ih (fun i hi => h i (by omega))]
theorem wac_2 (Z : WAc) : ∀ k, (wac P Q W x y Z k).2.2 = Z.2.2 := by
  intro k
  induction k with
  | zero => rfl
  | succ k ih =>
    rw [wac]
    split
    · exact ih
    · exact ih
end WK
/-- WAITS tell 0 to 2 -/
def Wle (W : Nat → Nat → Nat) : Prop := ∀ a b, a < 12 → b < 12 → W a b ≤ 2
theorem mvr_c {W : Nat → Nat → Nat} (hW : Wle W) {a b : Nat} (ha : a ≤ 12) (hb : b ≤ 12) : (mvr W a b = 3 ∧ a = 12 ∧ b = 12) ∨ (mvr W a b = 2 ∧ b < 12) ∨ (mvr W a b = 1 ∧ a < 12) ∨ (mvr W a b = 0 ∧ a < 12 ∧ b < 12) := by
  unfold mvr
  by_cases c : a = 12
  · rw [if_pos c]
    by_cases d : b = 12
    · rw [if_pos d]; exact Or.inl ⟨rfl, c, d⟩
    · rw [if_neg d]; exact Or.inr (Or.inl ⟨rfl, by omega⟩)
  · rw [if_neg c]
    by_cases d : b = 12
    · rw [if_pos d]; exact Or.inr (Or.inr (Or.inl ⟨rfl, by omega⟩))
    · rw [if_neg d]
      have := hW a b (by omega) (by omega)
      omega
theorem wmo_c {P Q : Pg} {W : Nat → Nat → Nat} (hP : VP P) (hQ : VP Q) (hW : Wle W) {x y : Nat} (hx : x < 256) (hy : y < 256) (t : Nat × Nat) : (wmo P Q W x y t = 3 ∧ ps P x t.1 / 256 = 12 ∧ ps Q y t.2 / 256 = 12) ∨ (wmo P Q W x y t = 2 ∧ ps Q y t.2 / 256 < 12) ∨ (wmo P Q W x y t = 1 ∧ ps P x t.1 / 256 < 12) ∨ (wmo P Q W x y t = 0 ∧ ps P x t.1 / 256 < 12 ∧ ps Q y t.2 / 256 < 12) := by
  have a := (ps_ok hP hx t.1).2
  have b := (ps_ok hQ hy t.2).2
  exact mvr_c hW (by omega) (by omega)
theorem wps_b {P Q : Pg} {W : Nat → Nat → Nat} (hP : VP P) (hQ : VP Q) (hW : Wle W) {x y : Nat} (hx : x < 256) (hy : y < 256) : ∀ k, (wps P Q W x y k).1 ≤ 24 ∧ (wps P Q W x y k).2 ≤ 24 ∧ ((∀ i, i < k → wmo P Q W x y (wps P Q W x y i) ≠ 3) → k ≤ (wps P Q W x y k).1 + (wps P Q W x y k).2) := by
  intro k
  induction k with
  | zero => exact ⟨Nat.zero_le _, Nat.zero_le _, fun _ => Nat.zero_le _⟩
  | succ k ih =>
    obtain ⟨a, b, c⟩ := ih
    rw [wps]
    rcases wmo_c hP hQ hW hx hy (wps P Q W x y k) with ⟨h, _⟩ | ⟨h, g⟩ | ⟨h, g⟩ | ⟨h, g, g'⟩
    · rw [if_pos h]; exact ⟨a, b, fun q => absurd h (q k (by omega))⟩
    · have := ps_lt g
      rw [h]; exact ⟨a, by show (wps P Q W x y k).2 + 1 ≤ 24; omega, fun q => by have := c (fun i hi => q i (by omega)); show k + 1 ≤ (wps P Q W x y k).1 + ((wps P Q W x y k).2 + 1); omega⟩
    · have := ps_lt g
      rw [h]; exact ⟨by show (wps P Q W x y k).1 + 1 ≤ 24; omega, b, fun q => by have := c (fun i hi => q i (by omega)); show k + 1 ≤ (wps P Q W x y k).1 + 1 + (wps P Q W x y k).2; omega⟩
    · have g1 := ps_lt g
      have g2 := ps_lt g'
      rw [h]; exact ⟨by show (wps P Q W x y k).1 + 1 ≤ 24; omega, by show (wps P Q W x y k).2 + 1 ≤ 24; omega, fun q => by have := c (fun i hi => q i (by omega)); show k + 1 ≤ (wps P Q W x y k).1 + 1 + ((wps P Q W x y k).2 + 1); omega⟩
/-- a walk ends within 48 moves -/
theorem w_end {P Q : Pg} {W : Nat → Nat → Nat} (hP : VP P) (hQ : VP Q) (hW : Wle W) {x y : Nat} (hx : x < 256) (hy : y < 256) {k : Nat} (h : ∀ i, i < k → wmo P Q W x y (wps P Q W x y i) ≠ 3) (h3 : wmo P Q W x y (wps P Q W x y k) ≠ 3) : k < 48 := by
  obtain ⟨a, b, c⟩ := wps_b hP hQ hW hx hy k
  have c := c h
  rcases wmo_c hP hQ hW hx hy (wps P Q W x y k) with ⟨h, _⟩ | ⟨h, g⟩ | ⟨h, g⟩ | ⟨h, g, g'⟩
  · exact absurd h h3
  · have := ps_lt g; omega
  · have := ps_lt g; omega
  · have := ps_lt g; omega
theorem w_fin {P Q : Pg} {W : Nat → Nat → Nat} (hP : VP P) (hQ : VP Q) (hW : Wle W) {x y : Nat} (hx : x < 256) (hy : y < 256) {k : Nat} (h : ∀ i, i < k → wmo P Q W x y (wps P Q W x y i) ≠ 3) (h3 : wmo P Q W x y (wps P Q W x y k) = 3) (Z : WAc) : k ≤ 48 ∧ wmv P Q W x y 48 = k ∧ wac P Q W x y Z 48 = wac P Q W x y Z k := by
  have hk : k ≤ 48 := by
    cases k with
    | zero => omega
    | succ k =>
      have := w_end hP hQ hW hx hy (k := k) (fun i hi => h i (by omega)) (h k (by omega))
      omega
  obtain ⟨a, b, c⟩ := w_stay P Q W x y h3 Z (48 - k)
  rw [show k + (48 - k) = 48 by omega] at a b c
  exact ⟨hk, by rw [c, w_go P Q W x y h], b⟩
noncomputable def BN : Nat := Classical.choose (⟨65536, rfl⟩ : ∃ n : Nat, n = 65536)
theorem BN_ : BN = 65536 := Classical.choose_spec (⟨65536, rfl⟩ : ∃ n : Nat, n = 65536)
noncomputable def wal (T : Tx) (P Q : Pg) (W : Nat → Nat → Nat) : Nat → WAc
  | 0 => ((fun _ => 4095), (fun _ => 0), 0)
  | n + 1 => if mtq T (n / 256) (n % 256) = true then wpr P Q W (n / 256) (n % 256) (wal T P Q W n) else wal T P Q W n
noncomputable def WSp : WSt := fun T P Q W => wal T P Q W BN
