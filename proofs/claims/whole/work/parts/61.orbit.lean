/-! ===== 61: turnings and renamings ===== -/
theorem turn_p {n L p a : Nat} (hn : n < 8) (hp : p < n) (ha : a < n) : adj (turn n L p) p a = adj L p a := by
  rw [turn_adj hn hp ha, adj_self]
  simp
theorem turn_turn {n L p : Nat} (hn : n < 8) (hL : L < 2 ^ tri n) (hp : p < n) : turn n (turn n L p) p = L := by
  refine net_ext' hn (turn_lt _ _ _) hL fun a ha b hb => ?_
  have hbn : b < n := by omega
  rw [turn_adj hn ha hbn, turn_p hn hp ha, turn_p hn hp hbn, turn_adj hn ha hbn]
  cases adj L a b <;> cases (decide (a ≠ b) && (adj L p a && adj L p b)) <;> rfl
theorem exch_exch (a b p : Nat) : exch a b (exch a b p) = p := by
  unfold exch
  repeat' split
  all_goals omega
theorem exnet_adj {n L a b x y : Nat} (hn : n < 8) (hx : x < n) (hy : y < n) : adj (exnet n L a b) x y = adj L (exch a b x) (exch a b y) :=
  mk_adj2 hn (fun h l => adj L (exch a b h) (exch a b l)) (fun _ _ => adj_comm _ _ _) (fun _ => adj_self _ _) hx hy
theorem exnet_lt (n L a b : Nat) : exnet n L a b < 2 ^ tri n := mk_lt _ _
theorem exnet_exnet {n L a b : Nat} (hn : n < 8) (hL : L < 2 ^ tri n) (ha : a < n) (hb : b < n) : exnet n (exnet n L a b) a b = L := by
  refine net_ext' hn (exnet_lt _ _ _ _) hL fun x hx y hy => ?_
  have hyn : y < n := by omega
  rw [exnet_adj hn hx hyn, exnet_adj hn (exch_lt ha hb hx) (exch_lt ha hb hyn), exch_exch, exch_exch]
theorem turn_exnet {n L a b p : Nat} (hn : n < 8) (ha : a < n) (hb : b < n) (hp : p < n) : turn n (exnet n L a b) p = exnet n (turn n L (exch a b p)) a b := by
  refine net_ext' hn (turn_lt _ _ _) (exnet_lt _ _ _ _) fun x hx y hy => ?_
  have hyn : y < n := by omega
  have hne : x ≠ y := by omega
  have hne2 := exch_ne (a := a) (b := b) hne
  rw [turn_adj hn hx hyn, exnet_adj hn hx hyn, exnet_adj hn hp hx, exnet_adj hn hp hyn, exnet_adj hn hx hyn, turn_adj hn (exch_lt ha hb hx) (exch_lt ha hb hyn)]
  simp [hne, hne2]
/-- few come of it by turning -/
def Bnd (n L : Nat) : Prop := ∃ C : List Nat, L ∈ C ∧ (∀ x ∈ C, x < 2 ^ tri n ∧ ∀ p, p < n → turn n x p ∈ C) ∧ C.length ≤ 1096
theorem Bnd_turn {n L p : Nat} (hn : n < 8) (hL : L < 2 ^ tri n) (hp : p < n) (h : Bnd n (turn n L p)) : Bnd n L := by
  obtain ⟨C, h1, h2, h3⟩ := h
  refine ⟨C, ?_, h2, h3⟩
  have := (h2 _ h1).2 p hp
  rw [turn_turn hn hL hp] at this
  exact this
theorem Bnd_ex {n L a b : Nat} (hn : n < 8) (hL : L < 2 ^ tri n) (ha : a < n) (hb : b < n) (h : Bnd n (exnet n L a b)) : Bnd n L := by
  obtain ⟨C, h1, h2, h3⟩ := h
  refine ⟨C.map fun x => exnet n x a b, ?_, fun x hx => ?_, by rw [List.length_map]; exact h3⟩
  · exact List.mem_map.mpr ⟨_, h1, exnet_exnet hn hL ha hb⟩
  · obtain ⟨y, hy, rfl⟩ := List.mem_map.mp hx
    refine ⟨exnet_lt _ _ _ _, fun p hp => ?_⟩
    rw [turn_exnet hn ha hb hp]
    exact List.mem_map.mpr ⟨_, (h2 y hy).2 _ (exch_lt ha hb hp), rfl⟩
/-- a turning (both digits one point), or a renaming -/
def mv (n L c : Nat) : Nat := if c / 8 = c % 8 then turn n L (c / 8) else exnet n L (c / 8) (c % 8)
theorem mv_lt (n L c : Nat) : mv n L c < 2 ^ tri n := by
  unfold mv
  split
  · exact turn_lt _ _ _
  · exact exnet_lt _ _ _ _
theorem Bnd_mv {n L c : Nat} (hn : n < 8) (hL : L < 2 ^ tri n) (h1 : c / 8 < n) (h2 : c % 8 < n) (h : Bnd n (mv n L c)) : Bnd n L := by
  unfold mv at h
  split at h
  · exact Bnd_turn hn hL h1 h
  · exact Bnd_ex hn hL h1 h2 h
def aps (n : Nat) : List Nat → Nat → Nat
  | [], L => L
  | c :: cs, L => aps n cs (mv n L c)
def okM (n c : Nat) : Prop := c / 8 < n ∧ c % 8 < n
theorem Bnd_aps {n : Nat} (hn : n < 8) (cs : List Nat) : ∀ L, L < 2 ^ tri n → (∀ c ∈ cs, okM n c) → Bnd n (aps n cs L) → Bnd n L := by
  induction cs with
  | nil => intro L _ _ h; exact h
  | cons c cs ih =>
    intro L hL hc h
    obtain ⟨h1, h2⟩ := hc c List.mem_cons_self
    exact Bnd_mv hn hL h1 h2 (ih _ (mv_lt _ _ _) (fun d hd => hc d (List.mem_cons_of_mem _ hd)) h)
/-- the lines among the first points -/
theorem low_adj {n L a b : Nat} (hn : n < 8) (ha : a < n) (hb : b < n) : adj (L % 2 ^ tri n) a b = adj L a b := by
  by_cases hab : a = b
  · subst hab; rw [adj_self, adj_self]
  · unfold adj
    rw [Nat.testBit_mod_two_pow]
    have : pr a b < tri n := by
      by_cases h : b < a
      · exact pr_lt n hn a ha b h
      · rw [pr_comm]; exact pr_lt n hn b hb a (by omega)
    simp [this]
theorem low_lt (n L : Nat) : L % 2 ^ tri n < 2 ^ tri n := Nat.mod_lt _ (Nat.two_pow_pos _)
theorem low_mv {n L c : Nat} (hn : n < 7) (hc : okM n c) : mv (n + 1) L c % 2 ^ tri n = mv n (L % 2 ^ tri n) c := by
  obtain ⟨h1, h2⟩ := hc
  refine net_ext' (by omega) (low_lt _ _) (mv_lt _ _ _) fun a ha b hb => ?_
  have hbn : b < n := by omega
  rw [low_adj (by omega) ha hbn]
  unfold mv
  split
  · rw [turn_adj (by omega) (by omega) (by omega), turn_adj (by omega) ha hbn, low_adj (by omega) ha hbn, low_adj (by omega) h1 ha, low_adj (by omega) h1 hbn]
  · rw [exnet_adj (by omega) (by omega) (by omega), exnet_adj (by omega) ha hbn, low_adj (by omega) (exch_lt h1 h2 ha) (exch_lt h1 h2 hbn)]
theorem low_aps {n : Nat} (hn : n < 7) (cs : List Nat) : ∀ L, (∀ c ∈ cs, okM n c) → aps (n + 1) cs L % 2 ^ tri n = aps n cs (L % 2 ^ tri n) := by
  induction cs with
  | nil => intro L _; rfl
  | cons c cs ih =>
    intro L hc
    rw [aps, aps, ih _ (fun d hd => hc d (List.mem_cons_of_mem _ hd)), low_mv hn (hc c List.mem_cons_self)]
theorem aps_lt {n : Nat} (cs : List Nat) : ∀ L, L < 2 ^ tri n → aps n cs L < 2 ^ tri n := by
  induction cs with
  | nil => intro L h; exact h
  | cons c cs ih => intro L _; exact ih _ (mv_lt _ _ _)
theorem aps_app (n : Nat) (cs ds : List Nat) (L : Nat) : aps n (cs ++ ds) L = aps n ds (aps n cs L) := by
  induction cs generalizing L with
  | nil => rfl
  | cons c cs ih => exact ih _
/-- it comes to one of these -/
def Rp (R : List Nat) (n L : Nat) : Prop := ∃ cs, (∀ c ∈ cs, okM n c) ∧ aps n cs L ∈ R
/-- the moves of a code, six bits each, from the lowest on; 0 ends it -/
def runM (R : List Nat) (n : Nat) : Nat → Nat → Nat → Bool
  | 0, _, _ => false
  | f + 1, k, L => if k = 0 then R.contains L else decide ((k % 64 - 1) / 8 < n) && (decide ((k % 64 - 1) % 8 < n) && runM R n f (k / 64) (mv n L (k % 64 - 1)))
theorem runM_Rp {R : List Nat} {n : Nat} : ∀ f k L, runM R n f k L = true → Rp R n L := by
  intro f
  induction f with
  | zero => intro k L h; simp [runM] at h
  | succ f ih =>
    intro k L h
    rw [runM] at h
    split at h
    · exact ⟨[], ⟨fun c hc => absurd hc (by simp), by show L ∈ R; simpa using h⟩⟩
    · rw [Bool.and_eq_true, Bool.and_eq_true, decide_eq_true_eq, decide_eq_true_eq] at h
      obtain ⟨h1, h2, h3⟩ := h
      obtain ⟨cs, h4, h5⟩ := ih _ _ h3
      exact ⟨(k % 64 - 1) :: cs, fun c hc => by
        rcases List.mem_cons.mp hc with rfl | hc
        · exact ⟨h1, h2⟩
        · exact h4 c hc, h5⟩
/-- each representative with one point more, near each set, comes to one of the next -/
def tabB (R R' : List Nat) (n : Nat) (tab : List (List Nat)) : Bool := (R.zip tab).all fun q => decide (q.2.length = 2 ^ n) && ((List.range (2 ^ n)).zip q.2).all fun s => runM R' (n + 1) 40 s.2 (q.1 + s.1 * 2 ^ tri n)
theorem zip_mem {α β : Type} {l : List α} {m : List β} {i : Nat} {a : α} {b : β} (h1 : l[i]? = some a) (h2 : m[i]? = some b) : (a, b) ∈ l.zip m := by
  refine List.mem_of_getElem? (i := i) ?_
  rw [List.getElem?_zip_eq_some]
  exact ⟨h1, h2⟩
theorem Rp_step {R R' : List Nat} {n : Nat} {tab : List (List Nat)} (hn : n < 7) (hlen : R.length = tab.length) (hR : ∀ r ∈ R, r < 2 ^ tri n) (ht : tabB R R' n tab = true) (h : ∀ L, L < 2 ^ tri n → Rp R n L) : ∀ L, L < 2 ^ tri (n + 1) → Rp R' (n + 1) L := by
  intro L hL
  obtain ⟨cs, hcs, hr⟩ := h (L % 2 ^ tri n) (low_lt _ _)
  have hup : ∀ c ∈ cs, okM (n + 1) c := fun c hc => by obtain ⟨a, b⟩ := hcs c hc; exact ⟨by omega, by omega⟩
  obtain ⟨L1, hL1⟩ : ∃ L1, L1 = aps (n + 1) cs L := ⟨_, rfl⟩
  have hlt : L1 < 2 ^ tri (n + 1) := by rw [hL1]; exact aps_lt cs L hL
  have hlow : L1 % 2 ^ tri n ∈ R := by rw [hL1, low_aps hn cs L hcs]; exact hr
  rw [tri_s, Nat.pow_add] at hlt
  have hS : L1 / 2 ^ tri n < 2 ^ n := Nat.div_lt_of_lt_mul hlt
  obtain ⟨i, hi, hie⟩ := List.getElem_of_mem hlow
  have hi2 : R[i]? = some (L1 % 2 ^ tri n) := by rw [List.getElem?_eq_getElem hi, hie]
  have hit : i < tab.length := by omega
  have hz := zip_mem hi2 (List.getElem?_eq_getElem hit)
  unfold tabB at ht
  have h1 := List.all_eq_true.mp ht _ hz
  rw [Bool.and_eq_true, decide_eq_true_eq] at h1
  obtain ⟨h1, h2⟩ := h1
  have hs2 : (List.range (2 ^ n))[L1 / 2 ^ tri n]? = some (L1 / 2 ^ tri n) := List.getElem?_range hS
  have hs3 : L1 / 2 ^ tri n < tab[i].length := by rw [h1]; exact hS
  have h3 := List.all_eq_true.mp h2 _ (zip_mem hs2 (List.getElem?_eq_getElem hs3))
  obtain ⟨ds, hds, hd⟩ := runM_Rp _ _ _ h3
  dsimp only at hd
  rw [Nat.mul_comm, Nat.mod_add_div, hL1, ← aps_app] at hd
  exact ⟨cs ++ ds, fun c hc => by
    rcases List.mem_append.mp hc with hc | hc
    · exact hup c hc
    · exact hds c hc, hd⟩
/-- a class that is closed -/
def sumB : List Nat → Nat
  | [] => 0
  | x :: l => 1 <<< x ||| sumB l
theorem sumB_tb {l : List Nat} {i : Nat} : (sumB l).testBit i = true ↔ i ∈ l := by
  induction l with
  | nil => simp [sumB]
  | cons x l ih =>
    rw [sumB, Nat.testBit_or, Bool.or_eq_true, tb_set, decide_eq_true_eq, ih, List.mem_cons]
def cloB (n r : Nat) (l : List Nat) : Bool := l.contains r && (decide (l.length ≤ 1096) && (fun K => l.all fun x => decide (x < 2 ^ tri n) && (List.range n).all fun p => K.testBit (x ^^^ prs (row n x p))) (sumB l))
theorem cloB_Bnd {n r : Nat} {l : List Nat} (hn : n < 8) (h : cloB n r l = true) : Bnd n r := by
  unfold cloB at h
  rw [Bool.and_eq_true, Bool.and_eq_true, decide_eq_true_eq] at h
  obtain ⟨h1, h2, h3⟩ := h
  refine ⟨l, by simpa using h1, fun x hx => ?_, h2⟩
  have h4 := List.all_eq_true.mp h3 x hx
  rw [Bool.and_eq_true, decide_eq_true_eq] at h4
  refine ⟨h4.1, fun p hp => ?_⟩
  have h5 := List.all_eq_true.mp h4.2 p (List.mem_range.mpr hp)
  rw [turn_x hn h4.1 hp] at h5
  exact sumB_tb.mp h5
