/-! new int[n][k]: the outer array, then the inner ones -/
def zmnM (M : zM) (n k : Nat) : zM :=
  (fun a j => if zS M ≤ a ∧ a < zS M + 1 + n then 0 else M.1 a j, fun a j => if zS M ≤ a ∧ a < zS M + 1 + n then 0 else M.2.1 a j,
   fun a j => if a = zS M then (if j < n then some (zS M + 1 + j) else none) else if zS M < a ∧ a < zS M + 1 + n then none else M.2.2.1 a j,
   fun a => if a = zS M then n else if zS M < a ∧ a < zS M + 1 + n then k else M.2.2.2.1 a, zS M + 1 + n, zU M + n + n * k)
def zmn (M : zM) (n k : Int32) : Option (Nat × zM) :=
  if kd (zS M) = 104 ∧ (∀ j, j < n.toNatClampNeg → kd (zS M + 1 + j) = 100) ∧ (¬ n < 0 ∧ ¬ k < 0) ∧ (n.toNatClampNeg ≤ 100 ∧ k.toNatClampNeg ≤ 100) ∧ zS M + 1 + n.toNatClampNeg ≤ 600000 ∧ zU M + n.toNatClampNeg + n.toNatClampNeg * k.toNatClampNeg ≤ 7302250 then some (zS M, zmnM M n.toNatClampNeg k.toNatClampNeg) else none
section ZMN
variable {E : zEnv} {μ : zMu} {d : Nat} {M0 : zM} {tg : Option Value × zM} {α β : Type} {x0 : α} {t : Option α} {pc : Nat} {loc : List (Nat × Value)} {st rest : List Value} {M : zM}
theorem zE_mn {n k : Nat} (b : Nat) (h : b < zS M) : zE E (zmnM M n k) b = zE E M b := by
  have g0 : ¬ (zS M ≤ b ∧ b < zS M + 1 + n) := by omega
  have g1 : ¬ b = zS M := by omega
  have g2 : ¬ (zS M < b ∧ b < zS M + 1 + n) := by omega
  have h1 : zI (zmnM M n k) b = zI M b := by funext j; simp only [zI, zmnM, if_neg g0]
  have h2 : zJ (zmnM M n k) b = zJ M b := by funext j; simp only [zJ, zmnM, if_neg g0]
  have h3 : zR (zmnM M n k) b = zR M b := by funext j; simp only [zR, zmnM, if_neg g1, if_neg g2]
  have h4 : zL (zmnM M n k) b = zL M b := by simp only [zL, zmnM, if_neg g1, if_neg g2]
  unfold zE zfs
  rw [h1, h2, h3, h4]
theorem zs_mnew {index : Nat} {n k : Int32} {f : Nat → zM → Option α} (hE : zEok E) (hd : decode μ.2.2.1 pc = .ok (.multianewarray index 2, 4)) (hw1 : Cond.classLink μ.1 index "[[I" ∈ zT) (hw2 : Cond.arrayClass .int ∈ zT)
    (kk : ∀ q M1, zSy E μ d M0 tg x0 (f q M1) (pc + 4) loc (.ref (E.2.2.2.1 + q) :: st) M1) : zSy E μ d M0 tg x0 ((zmn M n k).bind (fun q => zpp q f)) pc loc (.int k :: .int n :: st) M := by
  obtain ⟨adV, hE⟩ := hE
  intro hh
  obtain ⟨q, hv, hh⟩ := Option.bind_eq_some_iff.mp hh
  unfold zmn at hv
  split at hv
  case isFalse => cases hv
  case isTrue hc =>
    cases hv
    obtain ⟨c1, c2, ⟨c3, c4⟩, ⟨c5, c6⟩, c7, c8⟩ := hc
    intro p e R s m args below meth c H locs ls Q K hl hP hS g T hT X
    have hw := K.2.2.2.2.1
    have hover : (Cond.arrayOver (.array .int)).before args s = true := (hE s s.heap K.2.2.2.2.2.2.1).2.2.2.2
    obtain ⟨-, -, r3, r4⟩ := K.2.2.2.2.2.2.2.2.2.1
    have g1 := g.1
    have g2 := g.2.1
    have hmul : n.toNatClampNeg * k.toNatClampNeg ≤ 100 * 100 := Nat.mul_le_mul c5 c6
    obtain ⟨vm₁, cA, comp, hW1, hfA, hfC, hO, hI, X1, step⟩ := Jvm.Stand.multianewarray2F X K.1 (ty := .int) K.2.2.2.1 (hw _ hw1) hover (hw _ hw2) (g := F0 m pc ls (.int k :: .int n :: st)) rfl (by rw [K.2.1]; exact hd) rfl c3 c4 (by omega) (by show k.toNatClampNeg * 4 ≤ _; omega) (by omega) rfl rfl (by rw [r3]; omega) (by rw [r4]; omega)
    have eA : some cA = some (E.2.2.1 104) := hfA.symm.trans (K.2.2.2.2.2.1.2 4 _ rfl).2
    have eC : some comp = some (E.2.2.1 100) := hfC.symm.trans (K.2.2.2.2.2.1.2 0 _ rfl).2
    cases eA
    cases eC
    obtain ⟨f1, f2, -, -⟩ := Jvm.Free.Multi.fill_facts (T.setVm vm₁) (E.2.2.1 104) (E.2.2.1 100) n.toNatClampNeg k.toNatClampNeg (defaultValue .int) n.toNatClampNeg
    have f3 : ∀ a, a < T.heap.size → _ := fun a ha => Jvm.Free.Multi.fill_old (T.setVm vm₁) (E.2.2.1 104) (E.2.2.1 100) n.toNatClampNeg k.toNatClampNeg (defaultValue .int) (a := a) ha n.toNatClampNeg
    have f4 := Jvm.Free.Multi.fill_inner (T.setVm vm₁) (E.2.2.1 104) (E.2.2.1 100) n.toNatClampNeg k.toNatClampNeg (defaultValue .int) n.toNatClampNeg
    generalize hF : Jvm.Free.Multi.fill (T.setVm vm₁) (E.2.2.1 104) (E.2.2.1 100) n.toNatClampNeg k.toNatClampNeg (defaultValue .int) n.toNatClampNeg = F at X1 step f1 f2 f3 f4
    have hz : (T.setVm vm₁).heap.size = E.2.2.2.1 + zS M := by show T.heap.size = _; rw [hT]; exact hP.1
    have hz' : T.heap.size = E.2.2.2.1 + zS M := hz
    rw [hz] at f1 f2 f4
    have hP1 : va_P E.2.1 vwCl (zW E (zmnM M n.toNatClampNeg k.toNatClampNeg)) F.heap := by
      intro i x hx
      obtain ⟨hi, rfl⟩ := zW_inv hx
      have hi2 : i < zS M + 1 + n.toNatClampNeg := hi
      by_cases h1 : i < zS M
      · rw [zE_mn i h1]
        refine (hP.2 i _ (zW_get h1)).kept ?_
        rw [← hT]
        exact f3 _ (by rw [hz']; show E.2.2.2.1 + i < _; omega)
      · by_cases h2 : i = zS M
        · subst h2
          rw [zE_q c1]
          show F.heap[E.2.2.2.1 + zS M]? = some (vp_cell _ _)
          rw [f2, vp_cell_q]
          congr 1
          have hs : ∀ (N i : Nat), i ≤ N → Jvm.Free.Multi.outerC (E.2.2.1 104) N (E.2.2.2.1 + zS M) i = arrV (E.2.2.1 104) N (fun j => va_rf (if j < i then some (E.2.2.2.1 + zS M + 1 + j) else none)) := by
            intro N i
            induction i with
            | zero =>
              intro _
              show ({ cls := _, slots := Array.replicate N .null, vm := .none } : Cell) = _
              unfold arrV
              congr 1
              apply Array.ext
              · simp
              · intro j h1 h2
                simp [va_rf]
            | succ i ih =>
              intro hle
              show (Jvm.Free.Multi.outerC _ N _ i).setSlot i _ = _
              rw [ih (by omega), arrV_store]
              congr 1
              funext j
              unfold updV
              by_cases hj : j = i
              · subst hj
                simp [va_rf]
              · rw [if_neg hj]
                show va_rf (if j < i then some (E.2.2.2.1 + zS M + 1 + j) else none) = _
                by_cases hlt : j < i
                · rw [if_pos hlt, if_pos (by omega)]
                · rw [if_neg hlt, if_neg (by omega)]
          rw [hs _ _ (Nat.le_refl _)]
          have hL : zL (zmnM M n.toNatClampNeg k.toNatClampNeg) (zS M) = n.toNatClampNeg := by simp [zL, zmnM]
          rw [hL]
          congr 1
          funext j
          by_cases hj : j < n.toNatClampNeg
          · simp [zR, zmnM, hj, va_rf, Nat.add_assoc]
          · simp [zR, zmnM, hj, va_rf]
        · obtain ⟨j, rfl⟩ : ∃ j, i = zS M + 1 + j := ⟨i - (zS M + 1), by omega⟩
          have hj : j < n.toNatClampNeg := by omega
          rw [zE_i (c2 j hj) (by decide)]
          show F.heap[E.2.2.2.1 + (zS M + 1 + j)]? = some (vp_cell _ _)
          rw [show E.2.2.2.1 + (zS M + 1 + j) = E.2.2.2.1 + zS M + 1 + j by omega, f4 j hj, vp_cell_i]
          congr 1
          have hL : zL (zmnM M n.toNatClampNeg k.toNatClampNeg) (zS M + 1 + j) = k.toNatClampNeg := by
            simp only [zL, zmnM]
            rw [if_neg (by omega), if_pos (by omega)]
          rw [hL]
          show ({ cls := _, slots := Array.replicate _ _, vm := .none } : Cell) = _
          unfold arrV
          congr 1
          apply Array.ext
          · simp
          · intro q h1 h2
            have : zI (zmnM M n.toNatClampNeg k.toNatClampNeg) (zS M + 1 + j) q = 0 := by
              simp only [zI, zmnM]
              rw [if_pos (by omega)]
            simp [this, defaultValue]
    have w := kk _ _ hh p e R s m args below meth c F.heap locs ls Q K hl ⟨by rw [f1]; show _ = E.2.2.2.1 + (zS M + 1 + n.toNatClampNeg); omega, hP1⟩ ⟨by rw [f1]; have := hS.1; rw [hP.1] at this; omega, fun a h1 h2 => by
        rw [f3 a (by rw [hT]; exact Nat.lt_of_lt_of_le h1 hS.1)]
        show T.heap[a]? = _
        rw [hT]
        exact hS.2.1 a h1 h2, hS.2.2⟩ ⟨by show _ ≤ zS M + 1 + n.toNatClampNeg; omega, by show _ ≤ zU M + n.toNatClampNeg + n.toNatClampNeg * k.toNatClampNeg; omega, c7, c8⟩
    have n1 : zS (zmnM M n.toNatClampNeg k.toNatClampNeg) - zS M0 = zS M - zS M0 + 1 + n.toNatClampNeg := by show zS M + 1 + n.toNatClampNeg - zS M0 = _; omega
    have n2 : zU (zmnM M n.toNatClampNeg k.toNatClampNeg) - zU M0 = zU M - zU M0 + n.toNatClampNeg + n.toNatClampNeg * k.toNatClampNeg := by show zU M + n.toNatClampNeg + n.toNatClampNeg * k.toNatClampNeg - zU M0 = _; omega
    rw [n1, n2] at w
    obtain ⟨t2, a1, b1⟩ := w F rfl X1
    refine ⟨t2, step _ ?_, b1⟩
    rw [hz']
    exact a1
end ZMN
