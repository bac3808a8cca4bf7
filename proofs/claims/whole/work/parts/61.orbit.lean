/-! ===== 61: turnings and renamings ===== -/
theorem turn_p {n L p a : Nat} (hn : n < 8) (hp : p < n) (ha : a < n) : adj (turn n L p) p a = adj L p a := by
  rw [turn_adj hn hp ha, adj_self]
  simp
theorem turn_turn {n L p : Nat} (hn : n < 8) (hL : L < 2 ^ tri n) (hp : p < n) : turn n (turn n L p) p = L := by
  refine net_ext' hn (turn_lt _ _ _) hL fun a ha b hb => ?_
  have hbn : b < n := by omega
  rw [turn_adj hn ha hbn, turn_p hn hp ha, turn_p hn hp hbn, turn_adj hn ha hbn]
  cases adj L a b <;> cases (decide (a ≠ b) && (adj L p a && adj L p b)) <;> rfl
theorem exch_exch (a b p : Nat) : exch a b (exch a b p) = p := by
  unfold exch
  repeat' split
  all_goals omega
theorem exnet_adj {n L a b x y : Nat} (hn : n < 8) (hx : x < n) (hy : y < n) : adj (exnet n L a b) x y = adj L (exch a b x) (exch a b y) :=
  mk_adj2 hn (fun h l => adj L (exch a b h) (exch a b l)) (fun _ _ => adj_comm _ _ _) (fun _ => adj_self _ _) hx hy
theorem exnet_lt (n L a b : Nat) : exnet n L a b < 2 ^ tri n := mk_lt _ _
theorem exnet_exnet {n L a b : Nat} (hn : n < 8) (hL : L < 2 ^ tri n) (ha : a < n) (hb : b < n) : exnet n (exnet n L a b) a b = L := by
  refine net_ext' hn (exnet_lt _ _ _ _) hL fun x hx y hy => ?_
  have hyn : y < n := by omega
  rw [exnet_adj hn hx hyn, exnet_adj hn (exch_lt ha hb hx) (exch_lt ha hb hyn), exch_exch, exch_exch]
theorem turn_exnet {n L a b p : Nat} (hn : n < 8) (ha : a < n) (hb : b < n) (hp : p < n) : turn n (exnet n L a b) p = exnet n (turn n L (exch a b p)) a b := by
  refine net_ext' hn (turn_lt _ _ _) (exnet_lt _ _ _ _) fun x hx y hy => ?_
  have hyn : y < n := by omega
  have hne : x ≠ y := by omega
  have hne2 := exch_ne (a := a) (b := b) hne
  rw [turn_adj hn hx hyn, exnet_adj hn hx hyn, exnet_adj hn hp hx, exnet_adj hn hp hyn, exnet_adj hn hx hyn, turn_adj hn (exch_lt ha hb hx) (exch_lt ha hb hyn)]
  simp [hne, hne2]
/-- few come of it by turning -/
def Bnd (n L : Nat) : Prop := ∃ C : List Nat, L ∈ C ∧ (∀ x ∈ C, x < 2 ^ tri n ∧ ∀ p, p < n → turn n x p ∈ C) ∧ C.length ≤ 1096
theorem Bnd_turn {n L p : Nat} (hn : n < 8) (hL : L < 2 ^ tri n) (hp : p < n) (h : Bnd n (turn n L p)) : Bnd n L := by
  obtain ⟨C, h1, h2, h3⟩ := h
  refine ⟨C, ?_, h2, h3⟩
  have := (h2 _ h1).2 p hp
  rw [turn_turn hn hL hp] at this
  exact this
theorem Bnd_ex {n L a b : Nat} (hn : n < 8) (hL : L < 2 ^ tri n) (ha : a < n) (hb : b < n) (h : Bnd n (exnet n L a b)) : Bnd n L := by
  obtain ⟨C, h1, h2, h3⟩ := h
  refine ⟨C.map fun x => exnet n x a b, ?_, fun x hx => ?_, by rw [List.length_map]; exact h3⟩
  · exact List.mem_map.mpr ⟨_, h1, exnet_exnet hn hL ha hb⟩
  · obtain ⟨y, hy, rfl⟩ := List.mem_map.mp hx
    refine ⟨exnet_lt _ _ _ _, fun p hp => ?_⟩
    rw [turn_exnet hn ha hb hp]
    exact List.mem_map.mpr ⟨_, (h2 y hy).2 _ (exch_lt ha hb hp), rfl⟩
/-- a turning (both digits one point), or a renaming -/
def mv (n L c : Nat) : Nat := if c / 8 = c % 8 then turn n L (c / 8) else exnet n L (c / 8) (c % 8)
theorem mv_lt (n L c : Nat) : mv n L c < 2 ^ tri n := by
  unfold mv
  split
  · exact turn_lt _ _ _
  · exact exnet_lt _ _ _ _
theorem Bnd_mv {n L c : Nat} (hn : n < 8) (hL : L < 2 ^ tri n) (h1 : c / 8 < n) (h2 : c % 8 < n) (h : Bnd n (mv n L c)) : Bnd n L := by
  unfold mv at h
  split at h
  · exact Bnd_turn hn hL h1 h
  · exact Bnd_ex hn hL h1 h2 h
def aps (n : Nat) : List Nat → Nat → Nat
  | [], L => L
  | c :: cs, L => aps n cs (mv n L c)
def okM (n c : Nat) : Prop := c / 8 < n ∧ c % 8 < n
theorem Bnd_aps {n : Nat} (hn : n < 8) (cs : List Nat) : ∀ L, L < 2 ^ tri n → (∀ c ∈ cs, okM n c) → Bnd n (aps n cs L) → Bnd n L := by
  induction cs with
  | nil => intro L _ _ h; exact h
  | cons c cs ih =>
    intro L hL hc h
    obtain ⟨h1, h2⟩ := hc c List.mem_cons_self
    exact Bnd_mv hn hL h1 h2 (ih _ (mv_lt _ _ _) (fun d hd => hc d (List.mem_cons_of_mem _ hd)) h)
/-- the lines among the first points -/
theorem low_adj {n L a b : Nat} (hn : n < 8) (ha : a < n) (hb : b < n) : adj (L % 2 ^ tri n) a b = adj L a b := by
  by_cases hab : a = b
  · subst hab; rw [adj_self, adj_self]
  · unfold adj
    rw [Nat.testBit_mod_two_pow]
    have : pr a b < tri n := by
      by_cases h : b < a
      · exact pr_lt n hn a ha b h
      · rw [pr_comm]; exact pr_lt n hn b hb a (by omega)
    simp [this]
theorem low_lt (n L : Nat) : L % 2 ^ tri n < 2 ^ tri n := Nat.mod_lt _ (Nat.two_pow_pos _)
theorem low_mv {n L c : Nat} (hn : n < 7) (hc : okM n c) : mv (n + 1) L c % 2 ^ tri n = mv n (L % 2 ^ tri n) c := by
  obtain ⟨h1, h2⟩ := hc
  refine net_ext' (by omega) (low_lt _ _) (mv_lt _ _ _) fun a ha b hb => ?_
  have hbn : b < n := by omega
  rw [low_adj (by omega) ha hbn]
  unfold mv
  split
  · rw [turn_adj (by omega) (by omega) (by omega), turn_adj (by omega) ha hbn, low_adj (by omega) ha hbn, low_adj (by omega) h1 ha, low_adj (by omega) h1 hbn]
  · rw [exnet_adj (by omega) (by omega) (by omega), exnet_adj (by omega) ha hbn, low_adj (by omega) (exch_lt h1 h2 ha) (exch_lt h1 h2 hbn)]
theorem low_aps {n : Nat} (hn : n < 7) (cs : List Nat) : ∀ L, (∀ c ∈ cs, okM n c) → aps (n + 1) cs L % 2 ^ tri n = aps n cs (L % 2 ^ tri n) := by
  induction cs with
  | nil => intro L _; rfl
  | cons c cs ih =>
    intro L hc
    rw [aps, aps, ih _ (fun d hd => hc d (List.mem_cons_of_mem _ hd)), low_mv hn (hc c List.mem_cons_self)]
theorem aps_lt {n : Nat} (cs : List Nat) : ∀ L, L < 2 ^ tri n → aps n cs L < 2 ^ tri n := by
  induction cs with
  | nil => intro L h; exact h
  | cons c cs ih => intro L _; exact ih _ (mv_lt _ _ _)
theorem aps_app (n : Nat) (cs ds : List Nat) (L : Nat) : aps n (cs ++ ds) L = aps n ds (aps n cs L) := by
  induction cs generalizing L with
  | nil => rfl
  | cons c cs ih => exact ih _
/-- it comes to one of these -/
def Rp (R : List Nat) (n L : Nat) : Prop := ∃ cs, (∀ c ∈ cs, okM n c) ∧ aps n cs L ∈ R
