/-! PURE: a line that tells of a hand -/
section
variable {cb : Nat → Nat} {n p : Nat} {τ : k_TW} {T : Nat}
theorem q_fw_p (P : Nat → Bool) : ∀ m i, q_fw P m i = none ∨ ∃ j, i ≤ j ∧ j < i + m ∧ P j = true ∧ q_fw P m i = some j
  | 0, i => Or.inl rfl
  | m + 1, i => by
    rw [q_fw]
    cases h : P i
    · rcases q_fw_p P m (i + 1) with g | ⟨j, j1, j2, j3, j4⟩
      · exact Or.inl (by simpa using g)
      · exact Or.inr ⟨j, by omega, by omega, j3, by simpa using j4⟩
    · exact Or.inr ⟨i, by omega, by omega, h, by simp⟩
theorem q_fw_k {P : Nat → Bool} {k : Nat} (hk : P k = true) (hn : ∀ j, j < k → P j = false) : ∀ m i, i ≤ k → k < i + m → q_fw P m i = some k
  | 0, i, h1, h2 => by omega
  | m + 1, i, h1, h2 => by
    rw [q_fw]
    by_cases h : i = k
    · subst h; rw [if_pos hk]
    · rw [hn i (by omega), if_neg (by decide)]; exact q_fw_k hk hn m (i + 1) (by omega) (by omega)
theorem q_wdi : ∀ j, j < 10 → ∀ k, k < 10 → q_wd j = q_wd k → j = k := by decide +kernel
theorem q_sp_u {j k : Nat} (hj : j < 10) (hk : k < 10) (h : q_sp cb n p k = true) (hjk : j ≠ k) : q_sp cb n p j = false := by
  unfold q_sp at h ⊢
  simp at h ⊢
  intro _ g
  exact hjk (q_wdi j hj k hk (by rw [← g, ← h.2]))
theorem q_sp_T {k : Nat} (h : q_sp cb n p k = true) : q_lT cb n p = 1 := by
  unfold q_sp at h
  simp at h
  exact h.1
def q_ua (τ : k_TW) (s a k v1 v2 v3 : Nat) : k_TW := fun t c => if t = 7 then (if c = s then τ 7 s + 1 else τ 7 c) else if c = a then (if t = 0 then k else if t = 1 then v1 else if t = 2 then v2 else if t = 3 then v3 else τ t c) else τ t c
theorem q_ua_7 (s a k v1 v2 v3 c : Nat) : q_ua τ s a k v1 v2 v3 7 c = if c = s then τ 7 s + 1 else τ 7 c := by unfold q_ua; rw [if_pos rfl]
theorem q_ua_t (s a k v1 v2 v3 : Nat) {t : Nat} (c : Nat) (h : 4 ≤ t) (h2 : t < 7) : q_ua τ s a k v1 v2 v3 t c = τ t c := by
  unfold q_ua
  rw [if_neg (by omega)]
  split
  · rw [if_neg (by omega), if_neg (by omega), if_neg (by omega), if_neg (by omega)]
  · rfl
theorem q_ua_n (s k v1 v2 v3 : Nat) {a t c : Nat} (h : t < 7) (h2 : c ≠ a) : q_ua τ s a k v1 v2 v3 t c = τ t c := by
  unfold q_ua
  rw [if_neg (by omega), if_neg h2]
theorem q_ua_a (s a k v1 v2 v3 : Nat) : q_ua τ s a k v1 v2 v3 0 a = k ∧ q_ua τ s a k v1 v2 v3 1 a = v1 ∧ q_ua τ s a k v1 v2 v3 2 a = v2 ∧ q_ua τ s a k v1 v2 v3 3 a = v3 := by
  unfold q_ua
  simp
def q_sa (τ : k_TW) (s : Nat) : Nat := if s = 0 then τ 7 0 else 4 + τ 7 1
theorem q_ua_H {s k v1 v2 v3 : Nat} (hs : s < 2) (h4 : τ 7 s < 4) (h0 : τ 7 0 ≤ 4) {c : Nat} (h : q_H (q_ua τ s (q_sa τ s) k v1 v2 v3) c = true) : c = q_sa τ s ∨ (c ≠ q_sa τ s ∧ q_H τ c = true) := by
  by_cases hc : c = q_sa τ s
  · exact Or.inl hc
  · refine Or.inr ⟨hc, ?_⟩
    rw [q_Hb] at h ⊢
    rw [q_ua_7, q_ua_7] at h
    unfold q_sa at hc
    have : s = 0 ∨ s = 1 := by omega
    rcases this with rfl | rfl
    · simp at h hc; omega
    · simp at h hc; omega
theorem q_PI_hand (h : q_PI τ T) {s k v1 v2 v3 : Nat} (hs : s < 2) (h4 : τ 7 s < 4) (hk : k ≤ 3) (w1 : v1 ≤ 9) (w2 : v2 ≤ 9) (w3 : v3 ≤ 2) : q_PI (q_ua τ s (q_sa τ s) k v1 v2 v3) T := by
  obtain ⟨h1, h2, h3, h3', h5, h6, h7, h8, h9⟩ := h
  have hs' : s = 0 ∨ s = 1 := by omega
  refine ⟨?_, ?_, ?_, ?_, h5, fun c hc => ?_, fun c hc => ?_, fun c hc => ?_, fun c hc => ?_⟩
  · rw [q_ua_7]; rcases hs' with rfl | rfl
    · rw [if_pos rfl]; omega
    · rw [if_neg (by omega)]; exact h1
  · rw [q_ua_7]; rcases hs' with rfl | rfl
    · rw [if_neg (by omega)]; exact h2
    · rw [if_pos rfl]; omega
  · rw [q_ua_7, if_neg (by omega)]; exact h3
  · rw [q_ua_7, if_neg (by omega)]; exact h3'
  · rcases q_ua_H hs h4 h1 hc with g | ⟨g1, g2⟩
    · subst g
      obtain ⟨a1, a2, a3, a4⟩ := q_ua_a (τ := τ) s (q_sa τ s) k v1 v2 v3
      rw [a1, a2, a3, a4]; exact ⟨hk, w1, w2, w3⟩
    · rw [q_ua_n _ _ _ _ _ (by omega) g1, q_ua_n _ _ _ _ _ (by omega) g1, q_ua_n _ _ _ _ _ (by omega) g1, q_ua_n _ _ _ _ _ (by omega) g1]
      exact h6 c g2
  · rw [q_ua_t _ _ _ _ _ _ _ (by omega) (by omega)]; exact h7 c hc
  · rw [q_ua_t _ _ _ _ _ _ _ (by omega) (by omega), q_ua_t _ _ _ _ _ _ _ (by omega) (by omega)]; exact h8 c hc
  · rw [q_ua_t _ _ _ _ _ _ _ (by omega) (by omega)]
    refine ⟨(h9 c hc).1, fun d hd => ?_⟩
    rw [q_ua_t _ _ _ _ _ _ _ (by omega) (by omega)]; exact (h9 c hc).2 d hd
/-- the class: a hand more -/
theorem v_add38 {σ : k_Mem} (hP : q_PI τ T) (hD : q_DC τ T σ) {s k v1 v2 v3 : Nat} (hs : s < 2) (h4 : τ 7 s < 4) : ∃ σ1, f_X5_add 38 (nI s) (nI k) (nI v1) (nI v2) (nI v3) σ = some ((), σ1) ∧ q_fC σ σ1 ∧ σ1 1 = σ 1 ∧ σ1 3 = σ 3 ∧ q_DC (q_ua τ s (q_sa τ s) k v1 v2 v3) T σ1 := by
  obtain ⟨h1, h2, h3, h3', h5, h6, h7⟩ := hD
  obtain ⟨p1, p2, -⟩ := hP
  have full : f_X5_isFull 38 (nI s) σ = some (0, σ) := by
    unfold f_X5_isFull j_X5_isFull_15
    have hs' : s = 0 ∨ s = 1 := by omega
    rcases hs' with rfl | rfl
    · rw [if_pos (by decide), h1, if_pos (show nI (τ 7 0) < 4 from nI_lt (a := τ 7 0) (b := 4) h4 (by omega))]
    · rw [if_neg (by decide), h2, if_pos (show nI (τ 7 1) < 4 from nI_lt (a := τ 7 1) (b := 4) h4 (by omega))]
  have ha8 : q_sa τ s < 8 := by
    unfold q_sa
    have hs' : s = 0 ∨ s = 1 := by omega
    rcases hs' with rfl | rfl
    · rw [if_pos rfl]; omega
    · rw [if_neg (by omega)]; omega
  have go : f_X5_add 38 (nI s) (nI k) (nI v1) (nI v2) (nI v3) σ = some ((), k_mset (k_mset (k_mset (k_mset (k_mset σ 38 (7 + s) (nI (τ 7 s + 1))) 39 (q_sa τ s) (nI k)) 40 (q_sa τ s) (nI v1)) 41 (q_sa τ s) (nI v2)) 42 (q_sa τ s) (nI v3)) := by
    unfold f_X5_add
    rw [full, q_bd, if_pos rfl]
    unfold j_X5_add_26 j_X5_add_55
    have hs' : s = 0 ∨ s = 1 := by omega
    rcases hs' with rfl | rfl
    · rw [if_pos (by decide), if_pos (by decide), h1, show q_sa τ 0 = τ 7 0 from rfl, q_inT (show τ 7 0 < 8 by omega) (by omega), if_pos rfl, if_pos rfl, if_pos rfl, if_pos rfl, q_n (by omega), show nI (τ 7 0) + 1 = nI (τ 7 0 + 1) from nI_1 _]
    · rw [if_neg (by decide), if_neg (by decide), h2, show (4 : Int32) = nI 4 from rfl, q_add, show q_sa τ 1 = 4 + τ 7 1 from rfl, q_inT (show 4 + τ 7 1 < 8 by omega) (by omega), if_pos rfl, if_pos rfl, if_pos rfl, if_pos rfl, q_n (by omega), show nI (τ 7 1) + 1 = nI (τ 7 1 + 1) from nI_1 _]
  rw [go]
  generalize hF : k_mset (k_mset (k_mset (k_mset (k_mset σ 38 (7 + s) (nI (τ 7 s + 1))) 39 (q_sa τ s) (nI k)) 40 (q_sa τ s) (nI v1)) 41 (q_sa τ s) (nI v2)) 42 (q_sa τ s) (nI v3) = σF
  have s0 : ∀ c, (c < 38 ∨ 42 < c) → σF c = σ c := fun c hc => by rw [← hF, q_ms_ne _ _ (by omega), q_ms_ne _ _ (by omega), q_ms_ne _ _ (by omega), q_ms_ne _ _ (by omega), q_ms_ne _ _ (by omega)]
  have s38 : ∀ j, σF 38 j = if j = 7 + s then nI (τ 7 s + 1) else σ 38 j := fun j => by
    rw [← hF, q_ms_ne _ _ (by omega), q_ms_ne _ _ (by omega), q_ms_ne _ _ (by omega), q_ms_ne _ _ (by omega), q_ms]
    by_cases h : j = 7 + s
    · rw [if_pos ⟨rfl, h⟩, if_pos h]
    · rw [if_neg (fun g => h g.2), if_neg h]
  have s39 : ∀ j, σF 39 j = if j = q_sa τ s then nI k else σ 39 j := fun j => by
    rw [← hF, q_ms_ne _ _ (by omega), q_ms_ne _ _ (by omega), q_ms_ne _ _ (by omega), q_ms]
    by_cases h : j = q_sa τ s
    · rw [if_pos ⟨rfl, h⟩, if_pos h]
    · rw [if_neg (fun g => h g.2), if_neg h, q_ms_ne _ _ (by omega)]
  have s40 : ∀ j, σF 40 j = if j = q_sa τ s then nI v1 else σ 40 j := fun j => by
    rw [← hF, q_ms_ne _ _ (by omega), q_ms_ne _ _ (by omega), q_ms]
    by_cases h : j = q_sa τ s
    · rw [if_pos ⟨rfl, h⟩, if_pos h]
    · rw [if_neg (fun g => h g.2), if_neg h, q_ms_ne _ _ (by omega), q_ms_ne _ _ (by omega)]
  have s41 : ∀ j, σF 41 j = if j = q_sa τ s then nI v2 else σ 41 j := fun j => by
    rw [← hF, q_ms_ne _ _ (by omega), q_ms]
    by_cases h : j = q_sa τ s
    · rw [if_pos ⟨rfl, h⟩, if_pos h]
    · rw [if_neg (fun g => h g.2), if_neg h, q_ms_ne _ _ (by omega), q_ms_ne _ _ (by omega), q_ms_ne _ _ (by omega)]
  have s42 : ∀ j, σF 42 j = if j = q_sa τ s then nI v3 else σ 42 j := fun j => by
    rw [← hF, q_ms]
    by_cases h : j = q_sa τ s
    · rw [if_pos ⟨rfl, h⟩, if_pos h]
    · rw [if_neg (fun g => h g.2), if_neg h, q_ms_ne _ _ (by omega), q_ms_ne _ _ (by omega), q_ms_ne _ _ (by omega), q_ms_ne _ _ (by omega)]
  refine ⟨σF, rfl, ⟨fun c c1 c2 c3 => s0 c (by omega), by rw [s0 1 (by omega)], by rw [s0 3 (by omega)]⟩, s0 1 (by omega), s0 3 (by omega), ?_⟩
  have hs' : s = 0 ∨ s = 1 := by omega
  refine ⟨?_, ?_, ?_, ?_, fun c hc => ?_, fun c hc => ?_, by rw [s0 3 (by omega)]; exact h7⟩
  · rw [s38, q_ua_7]; rcases hs' with rfl | rfl
    · rw [if_pos rfl, if_pos rfl]
    · rw [if_neg (by omega), if_neg (by omega)]; exact h1
  · rw [s38, q_ua_7]; rcases hs' with rfl | rfl
    · rw [if_neg (by omega), if_neg (by omega)]; exact h2
    · rw [if_pos rfl, if_pos rfl]
  · rw [s38, q_ua_7, if_neg (by omega), if_neg (by omega)]; exact h3
  · rw [s38, q_ua_7, if_neg (by omega), if_neg (by omega)]; exact h3'
  · rw [s39, s40, s41, s42]
    rcases q_ua_H hs h4 p1 hc with g | ⟨g1, g2⟩
    · subst g
      obtain ⟨a1, a2, a3, a4⟩ := q_ua_a (τ := τ) s (q_sa τ s) k v1 v2 v3
      rw [a1, a2, a3, a4, if_pos rfl, if_pos rfl, if_pos rfl, if_pos rfl]; exact ⟨rfl, rfl, rfl, rfl⟩
    · rw [if_neg g1, if_neg g1, if_neg g1, if_neg g1, q_ua_n _ _ _ _ _ (by omega) g1, q_ua_n _ _ _ _ _ (by omega) g1, q_ua_n _ _ _ _ _ (by omega) g1, q_ua_n _ _ _ _ _ (by omega) g1]
      exact h5 c g2
  · rw [s0 43 (by omega), s0 44 (by omega), s0 45 (by omega), q_ua_t _ _ _ _ _ _ _ (by omega) (by omega), q_ua_t _ _ _ _ _ _ _ (by omega) (by omega), q_ua_t _ _ _ _ _ _ _ (by omega) (by omega)]
    exact h6 c hc
theorem v_full38 {σ : k_Mem} (hP : q_PI τ T) (hD : q_DC τ T σ) {s : Nat} (hs : s < 2) : f_X5_isFull 38 (nI s) σ = some (if τ 7 s < 4 then 0 else 1, σ) := by
  have p1 := hP.1
  have p2 := hP.2.1
  unfold f_X5_isFull j_X5_isFull_15
  have hs' : s = 0 ∨ s = 1 := by omega
  rw [show (4 : Int32) = nI 4 from rfl]
  rcases hs' with rfl | rfl
  · rw [if_pos (by decide), hD.1]
    simp (disch := omega) only [q_lt]
    split <;> rfl
  · rw [if_neg (by decide), hD.2.1]
    simp (disch := omega) only [q_lt]
    split <;> rfl
theorem v_nb0 (hn : n ≤ 160) (hp : p ≤ n) {σ : k_Mem} (hT : q_TP cb n σ) (h4 : σ 1 4 = nI p) {lo hi : Nat} (hlo : lo < 128) (hhi : hi < 128) (hc : q_ncd cb n p lo hi 0 ≠ 0) : ∃ σ1, q_fC σ σ1 ∧ f_X1_number (nI lo) (nI hi) σ = some (-1, σ1) ∧ σ1 3 2 = nI (q_ncd cb n p lo hi 0) ∧ σ1 3 3 = nI (q_lS cb n p) := by
  obtain ⟨σ1, e1, e2, e3, e4, e5, e6, e7⟩ := v_number hn hT hp h4 (lo := lo) (hi := hi) hlo hhi
  have hnc : q_nc cb n p lo hi ≠ 0 := fun h => hc (by unfold q_ncd; rw [if_pos h, Nat.zero_testBit]; rfl)
  have hcc : q_ncd cb n p lo hi 0 = q_nc cb n p lo hi := by unfold q_ncd; rw [if_neg hnc]
  rw [if_neg hnc] at e1
  rw [hcc]
  exact ⟨σ1, ⟨fun k a b _ => e2 k a b, e3, e4 4 (by omega) (by omega)⟩, e1, e7 hnc⟩
end
