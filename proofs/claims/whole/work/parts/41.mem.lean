/-! ===== 41: the memory behind the two constructors ===== -/
def zRc : List (Nat × Nat × Nat) := [(0, 4, 1), (0, 5, 3), (0, 6, 6), (0, 7, 8), (0, 8, 9), (0, 9, 11), (0, 10, 23), (0, 11, 28), (0, 12, 33), (0, 13, 38), (0, 14, 42), (0, 15, 44), (0, 16, 45), (1, 0, 2), (3, 9, 5), (6, 0, 7), (9, 0, 10), (11, 0, 12), (11, 1, 21), (11, 2, 22), (23, 6, 25), (23, 7, 26), (23, 8, 27), (28, 6, 30), (28, 7, 31), (28, 8, 32), (33, 6, 35), (33, 7, 36), (33, 8, 37), (38, 3, 39), (38, 4, 40), (38, 5, 41), (42, 4, 43), (46, 2, 47), (46, 3, 48), (46, 4, 49), (46, 13, 50), (46, 14, 51), (46, 15, 52), (46, 16, 53), (46, 17, 54), (46, 18, 55), (46, 19, 56), (46, 21, 57), (46, 23, 58), (46, 24, 59), (46, 25, 60), (46, 26, 61), (46, 27, 62), (46, 30, 63), (46, 31, 64), (46, 32, 65), (46, 33, 66), (46, 34, 67), (46, 35, 68), (46, 45, 69), (46, 47, 70), (46, 48, 71), (12, 0, 13), (12, 1, 14), (12, 2, 15), (12, 3, 16), (12, 4, 17), (12, 5, 18), (12, 6, 19), (12, 7, 20)]
def zLc : List (Nat × Nat) := [(2, 200), (4, 0), (5, 14), (7, 12), (8, 3), (10, 64), (12, 8), (13, 8), (14, 8), (15, 8), (16, 8), (17, 8), (18, 8), (19, 8), (20, 8), (21, 8), (22, 8), (25, 7), (26, 14), (27, 128), (30, 7), (31, 14), (32, 128), (35, 7), (36, 14), (37, 128), (39, 1096), (40, 1096), (41, 2048), (43, 14), (44, 7), (45, 14), (47, 8), (48, 200), (49, 200), (50, 26), (51, 26), (52, 26), (53, 96), (54, 8), (55, 24), (56, 3), (57, 8), (58, 8), (59, 64), (60, 64), (61, 8), (62, 8), (63, 8), (64, 14), (65, 8), (66, 8), (67, 14), (68, 14), (69, 8), (70, 2187), (71, 2187)]
def zC (M : zM) : Prop := 72 ≤ zS M ∧ (∀ q ∈ zRc, zR M q.1 q.2.1 = some q.2.2) ∧ ∀ q ∈ zLc, zL M q.1 = q.2
theorem zI_sI (M : zM) (a k : Nat) (v : Int32) (b j : Nat) : zI (zsI M a k v) b j = if b = a ∧ j = k then v else zI M b j := rfl
theorem zJ_sI (M : zM) (a k : Nat) (v : Int32) : zJ (zsI M a k v) = zJ M := rfl
theorem zR_sI (M : zM) (a k : Nat) (v : Int32) : zR (zsI M a k v) = zR M := rfl
theorem zL_sI (M : zM) (a k : Nat) (v : Int32) : zL (zsI M a k v) = zL M := rfl
theorem zS_sI (M : zM) (a k : Nat) (v : Int32) : zS (zsI M a k v) = zS M := rfl
theorem zU_sI (M : zM) (a k : Nat) (v : Int32) : zU (zsI M a k v) = zU M := rfl
theorem zJ_sJ (M : zM) (a k : Nat) (v : Int64) (b j : Nat) : zJ (zsJ M a k v) b j = if b = a ∧ j = k then v else zJ M b j := rfl
theorem zI_sJ (M : zM) (a k : Nat) (v : Int64) : zI (zsJ M a k v) = zI M := rfl
theorem zR_sJ (M : zM) (a k : Nat) (v : Int64) : zR (zsJ M a k v) = zR M := rfl
theorem zL_sJ (M : zM) (a k : Nat) (v : Int64) : zL (zsJ M a k v) = zL M := rfl
theorem zS_sJ (M : zM) (a k : Nat) (v : Int64) : zS (zsJ M a k v) = zS M := rfl
theorem zU_sJ (M : zM) (a k : Nat) (v : Int64) : zU (zsJ M a k v) = zU M := rfl
theorem zC_sI (M : zM) (a k : Nat) (v : Int32) : zC (zsI M a k v) = zC M := rfl
theorem zC_sJ (M : zM) (a k : Nat) (v : Int64) : zC (zsJ M a k v) = zC M := rfl
theorem zC_lt {M : zM} (h : zC M) {a : Nat} (ha : a < 72) : a < zS M := Nat.lt_of_lt_of_le ha h.1
theorem zC_R {M : zM} (h : zC M) {a k t : Nat} (i : Nat) (hi : zRc[i]? = some (a, k, t)) : zR M a k = some t := h.2.1 (a, k, t) (List.mem_of_getElem? hi)
theorem zC_L {M : zM} (h : zC M) {a n : Nat} (i : Nat) (hi : zLc[i]? = some (a, n)) : zL M a = n := h.2.2 (a, n) (List.mem_of_getElem? hi)
theorem zgI_ok {M : zM} {c a : Nat} (h : a < zS M) (hk : kd a = c) (k : Nat) : zgI c M a k = some (zI M a k) := if_pos ⟨h, hk⟩
theorem zgR_ok {M : zM} {c a k t : Nat} (h : a < zS M) (hk : kd a = c) (ht : zR M a k = some t) : zgR c M a k = some t := (if_pos ⟨h, hk⟩).trans ht
theorem zpI_ok {M : zM} {c a : Nat} (h : a < zS M) (hk : kd a = c) (k : Nat) (v : Int32) : zpI c M a k v = some (zsI M a k v) := if_pos ⟨h, hk⟩
theorem zthis_ok {α : Type} {M : zM} {c a : Nat} (h : a < zS M) (hk : kd a = c) (t : Option α) : zthis c M a t = t := if_pos ⟨h, hk⟩
theorem zix {i n : Nat} (hn : n < 2 ^ 31) (hi : i < n) : ¬ (nI i < 0 ∨ n ≤ (nI i).toNatClampNeg) := by
  have h : i < 2 ^ 31 := Nat.lt_trans hi hn
  rw [n_clamp h]
  exact fun q => q.elim (fun z => nI_pos h z) (fun z => by omega)
theorem zlI_ok {M : zM} {c a n i : Nat} (h : a < zS M) (hk : kd a = c) (hn : zL M a = n) (hb : n < 2 ^ 31) (hi : i < n) : zlI c M a (nI i) = some (zI M a i) := by
  unfold zlI
  rw [hn, if_pos ⟨h, hk, zix hb hi⟩, n_clamp (Nat.lt_trans hi hb)]
theorem ztI_ok {M : zM} {a n i : Nat} (h : a < zS M) (hk : kd a = 100) (hn : zL M a = n) (hb : n < 2 ^ 31) (hi : i < n) (v : Int32) : ztI M a (nI i) v = some (zsI M a i v) := by
  unfold ztI
  rw [hn, if_pos ⟨h, hk, zix hb hi⟩, n_clamp (Nat.lt_trans hi hb)]
theorem ztB_ok {M : zM} {a n i : Nat} (h : a < zS M) (hk : kd a = 102) (hn : zL M a = n) (hb : n < 2 ^ 31) (hi : i < n) (v : Int32) : ztB M a (nI i) v = some (zsI M a i (vp_nar .byte v)) := by
  unfold ztB
  rw [hn, if_pos ⟨h, hk, zix hb hi⟩, n_clamp (Nat.lt_trans hi hb)]
theorem ztZ_ok {M : zM} {a n i : Nat} (h : a < zS M) (hk : kd a = 103) (hn : zL M a = n) (hb : n < 2 ^ 31) (hi : i < n) (v : Int32) : ztZ M a (nI i) v = some (zsI M a i (vp_nar .boolean v)) := by
  unfold ztZ
  rw [hn, if_pos ⟨h, hk, zix hb hi⟩, n_clamp (Nat.lt_trans hi hb)]
theorem zln_ok {M : zM} {a n : Nat} (h : a < zS M) (h1 : 100 ≤ kd a) (h2 : kd a ≤ 104) (hn : zL M a = n) : zln M a = some (nI n) := by
  unfold zln
  rw [if_pos ⟨h, h1, h2⟩, hn]
  rfl
theorem zlJ_ok {M : zM} {a n i : Nat} (h : a < zS M) (hk : kd a = 101) (hn : zL M a = n) (hb : n < 2 ^ 31) (hi : i < n) : zlJ M a (nI i) = some (zJ M a i) := by
  unfold zlJ
  rw [hn, if_pos ⟨h, hk, zix hb hi⟩, n_clamp (Nat.lt_trans hi hb)]
theorem ztJ_ok {M : zM} {a n i : Nat} (h : a < zS M) (hk : kd a = 101) (hn : zL M a = n) (hb : n < 2 ^ 31) (hi : i < n) (v : Int64) : ztJ M a (nI i) v = some (zsJ M a i v) := by
  unfold ztJ
  rw [hn, if_pos ⟨h, hk, zix hb hi⟩, n_clamp (Nat.lt_trans hi hb)]
theorem gI_0 {M : zM} (h : zC M) (k : Nat) : zgI 8 M 0 k = some (zI M 0 k) := zgI_ok (zC_lt h (by decide)) rfl k
theorem pI_0 {M : zM} (h : zC M) (k : Nat) (v : Int32) : zpI 8 M 0 k v = some (zsI M 0 k v) := zpI_ok (zC_lt h (by decide)) rfl k v
theorem ts_0 {α : Type} {M : zM} (h : zC M) (t : Option α) : zthis 8 M 0 t = t := zthis_ok (zC_lt h (by decide)) rfl t
theorem gR_0_4 {M : zM} (h : zC M) : zgR 8 M 0 4 = some 1 := zgR_ok (zC_lt h (by decide)) rfl (zC_R h 0 rfl)
theorem gR_0_5 {M : zM} (h : zC M) : zgR 8 M 0 5 = some 3 := zgR_ok (zC_lt h (by decide)) rfl (zC_R h 1 rfl)
theorem gR_0_6 {M : zM} (h : zC M) : zgR 8 M 0 6 = some 6 := zgR_ok (zC_lt h (by decide)) rfl (zC_R h 2 rfl)
theorem gR_0_7 {M : zM} (h : zC M) : zgR 8 M 0 7 = some 8 := zgR_ok (zC_lt h (by decide)) rfl (zC_R h 3 rfl)
theorem gR_0_8 {M : zM} (h : zC M) : zgR 8 M 0 8 = some 9 := zgR_ok (zC_lt h (by decide)) rfl (zC_R h 4 rfl)
theorem gR_0_9 {M : zM} (h : zC M) : zgR 8 M 0 9 = some 11 := zgR_ok (zC_lt h (by decide)) rfl (zC_R h 5 rfl)
theorem gR_0_10 {M : zM} (h : zC M) : zgR 8 M 0 10 = some 23 := zgR_ok (zC_lt h (by decide)) rfl (zC_R h 6 rfl)
theorem gR_0_11 {M : zM} (h : zC M) : zgR 8 M 0 11 = some 28 := zgR_ok (zC_lt h (by decide)) rfl (zC_R h 7 rfl)
theorem gR_0_12 {M : zM} (h : zC M) : zgR 8 M 0 12 = some 33 := zgR_ok (zC_lt h (by decide)) rfl (zC_R h 8 rfl)
theorem gR_0_13 {M : zM} (h : zC M) : zgR 8 M 0 13 = some 38 := zgR_ok (zC_lt h (by decide)) rfl (zC_R h 9 rfl)
theorem gR_0_14 {M : zM} (h : zC M) : zgR 8 M 0 14 = some 42 := zgR_ok (zC_lt h (by decide)) rfl (zC_R h 10 rfl)
theorem gR_0_15 {M : zM} (h : zC M) : zgR 8 M 0 15 = some 44 := zgR_ok (zC_lt h (by decide)) rfl (zC_R h 11 rfl)
theorem gR_0_16 {M : zM} (h : zC M) : zgR 8 M 0 16 = some 45 := zgR_ok (zC_lt h (by decide)) rfl (zC_R h 12 rfl)
theorem gI_1 {M : zM} (h : zC M) (k : Nat) : zgI 5 M 1 k = some (zI M 1 k) := zgI_ok (zC_lt h (by decide)) rfl k
theorem pI_1 {M : zM} (h : zC M) (k : Nat) (v : Int32) : zpI 5 M 1 k v = some (zsI M 1 k v) := zpI_ok (zC_lt h (by decide)) rfl k v
theorem ts_1 {α : Type} {M : zM} (h : zC M) (t : Option α) : zthis 5 M 1 t = t := zthis_ok (zC_lt h (by decide)) rfl t
theorem gR_1_0 {M : zM} (h : zC M) : zgR 5 M 1 0 = some 2 := zgR_ok (zC_lt h (by decide)) rfl (zC_R h 13 rfl)
theorem gI_3 {M : zM} (h : zC M) (k : Nat) : zgI 3 M 3 k = some (zI M 3 k) := zgI_ok (zC_lt h (by decide)) rfl k
theorem pI_3 {M : zM} (h : zC M) (k : Nat) (v : Int32) : zpI 3 M 3 k v = some (zsI M 3 k v) := zpI_ok (zC_lt h (by decide)) rfl k v
theorem ts_3 {α : Type} {M : zM} (h : zC M) (t : Option α) : zthis 3 M 3 t = t := zthis_ok (zC_lt h (by decide)) rfl t
theorem gR_3_9 {M : zM} (h : zC M) : zgR 3 M 3 9 = some 5 := zgR_ok (zC_lt h (by decide)) rfl (zC_R h 14 rfl)
theorem gI_6 {M : zM} (h : zC M) (k : Nat) : zgI 7 M 6 k = some (zI M 6 k) := zgI_ok (zC_lt h (by decide)) rfl k
theorem pI_6 {M : zM} (h : zC M) (k : Nat) (v : Int32) : zpI 7 M 6 k v = some (zsI M 6 k v) := zpI_ok (zC_lt h (by decide)) rfl k v
theorem ts_6 {α : Type} {M : zM} (h : zC M) (t : Option α) : zthis 7 M 6 t = t := zthis_ok (zC_lt h (by decide)) rfl t
theorem gR_6_0 {M : zM} (h : zC M) : zgR 7 M 6 0 = some 7 := zgR_ok (zC_lt h (by decide)) rfl (zC_R h 15 rfl)
theorem gI_9 {M : zM} (h : zC M) (k : Nat) : zgI 4 M 9 k = some (zI M 9 k) := zgI_ok (zC_lt h (by decide)) rfl k
theorem pI_9 {M : zM} (h : zC M) (k : Nat) (v : Int32) : zpI 4 M 9 k v = some (zsI M 9 k v) := zpI_ok (zC_lt h (by decide)) rfl k v
theorem ts_9 {α : Type} {M : zM} (h : zC M) (t : Option α) : zthis 4 M 9 t = t := zthis_ok (zC_lt h (by decide)) rfl t
theorem gR_9_0 {M : zM} (h : zC M) : zgR 4 M 9 0 = some 10 := zgR_ok (zC_lt h (by decide)) rfl (zC_R h 16 rfl)
theorem gI_11 {M : zM} (h : zC M) (k : Nat) : zgI 2 M 11 k = some (zI M 11 k) := zgI_ok (zC_lt h (by decide)) rfl k
theorem pI_11 {M : zM} (h : zC M) (k : Nat) (v : Int32) : zpI 2 M 11 k v = some (zsI M 11 k v) := zpI_ok (zC_lt h (by decide)) rfl k v
theorem ts_11 {α : Type} {M : zM} (h : zC M) (t : Option α) : zthis 2 M 11 t = t := zthis_ok (zC_lt h (by decide)) rfl t
theorem gR_11_0 {M : zM} (h : zC M) : zgR 2 M 11 0 = some 12 := zgR_ok (zC_lt h (by decide)) rfl (zC_R h 17 rfl)
theorem gR_11_1 {M : zM} (h : zC M) : zgR 2 M 11 1 = some 21 := zgR_ok (zC_lt h (by decide)) rfl (zC_R h 18 rfl)
theorem gR_11_2 {M : zM} (h : zC M) : zgR 2 M 11 2 = some 22 := zgR_ok (zC_lt h (by decide)) rfl (zC_R h 19 rfl)
theorem gI_38 {M : zM} (h : zC M) (k : Nat) : zgI 6 M 38 k = some (zI M 38 k) := zgI_ok (zC_lt h (by decide)) rfl k
theorem pI_38 {M : zM} (h : zC M) (k : Nat) (v : Int32) : zpI 6 M 38 k v = some (zsI M 38 k v) := zpI_ok (zC_lt h (by decide)) rfl k v
theorem ts_38 {α : Type} {M : zM} (h : zC M) (t : Option α) : zthis 6 M 38 t = t := zthis_ok (zC_lt h (by decide)) rfl t
theorem gR_38_3 {M : zM} (h : zC M) : zgR 6 M 38 3 = some 39 := zgR_ok (zC_lt h (by decide)) rfl (zC_R h 29 rfl)
theorem gR_38_4 {M : zM} (h : zC M) : zgR 6 M 38 4 = some 40 := zgR_ok (zC_lt h (by decide)) rfl (zC_R h 30 rfl)
theorem gR_38_5 {M : zM} (h : zC M) : zgR 6 M 38 5 = some 41 := zgR_ok (zC_lt h (by decide)) rfl (zC_R h 31 rfl)
theorem gI_42 {M : zM} (h : zC M) (k : Nat) : zgI 0 M 42 k = some (zI M 42 k) := zgI_ok (zC_lt h (by decide)) rfl k
theorem pI_42 {M : zM} (h : zC M) (k : Nat) (v : Int32) : zpI 0 M 42 k v = some (zsI M 42 k v) := zpI_ok (zC_lt h (by decide)) rfl k v
theorem ts_42 {α : Type} {M : zM} (h : zC M) (t : Option α) : zthis 0 M 42 t = t := zthis_ok (zC_lt h (by decide)) rfl t
theorem gR_42_4 {M : zM} (h : zC M) : zgR 0 M 42 4 = some 43 := zgR_ok (zC_lt h (by decide)) rfl (zC_R h 32 rfl)
theorem gI_46 {M : zM} (h : zC M) (k : Nat) : zgI 9 M 46 k = some (zI M 46 k) := zgI_ok (zC_lt h (by decide)) rfl k
theorem pI_46 {M : zM} (h : zC M) (k : Nat) (v : Int32) : zpI 9 M 46 k v = some (zsI M 46 k v) := zpI_ok (zC_lt h (by decide)) rfl k v
theorem ts_46 {α : Type} {M : zM} (h : zC M) (t : Option α) : zthis 9 M 46 t = t := zthis_ok (zC_lt h (by decide)) rfl t
theorem gR_46_2 {M : zM} (h : zC M) : zgR 9 M 46 2 = some 47 := zgR_ok (zC_lt h (by decide)) rfl (zC_R h 33 rfl)
theorem gR_46_3 {M : zM} (h : zC M) : zgR 9 M 46 3 = some 48 := zgR_ok (zC_lt h (by decide)) rfl (zC_R h 34 rfl)
theorem gR_46_4 {M : zM} (h : zC M) : zgR 9 M 46 4 = some 49 := zgR_ok (zC_lt h (by decide)) rfl (zC_R h 35 rfl)
theorem gR_46_13 {M : zM} (h : zC M) : zgR 9 M 46 13 = some 50 := zgR_ok (zC_lt h (by decide)) rfl (zC_R h 36 rfl)
theorem gR_46_14 {M : zM} (h : zC M) : zgR 9 M 46 14 = some 51 := zgR_ok (zC_lt h (by decide)) rfl (zC_R h 37 rfl)
theorem gR_46_15 {M : zM} (h : zC M) : zgR 9 M 46 15 = some 52 := zgR_ok (zC_lt h (by decide)) rfl (zC_R h 38 rfl)
theorem gR_46_16 {M : zM} (h : zC M) : zgR 9 M 46 16 = some 53 := zgR_ok (zC_lt h (by decide)) rfl (zC_R h 39 rfl)
theorem gR_46_17 {M : zM} (h : zC M) : zgR 9 M 46 17 = some 54 := zgR_ok (zC_lt h (by decide)) rfl (zC_R h 40 rfl)
theorem gR_46_18 {M : zM} (h : zC M) : zgR 9 M 46 18 = some 55 := zgR_ok (zC_lt h (by decide)) rfl (zC_R h 41 rfl)
theorem gR_46_19 {M : zM} (h : zC M) : zgR 9 M 46 19 = some 56 := zgR_ok (zC_lt h (by decide)) rfl (zC_R h 42 rfl)
theorem gR_46_21 {M : zM} (h : zC M) : zgR 9 M 46 21 = some 57 := zgR_ok (zC_lt h (by decide)) rfl (zC_R h 43 rfl)
theorem gR_46_23 {M : zM} (h : zC M) : zgR 9 M 46 23 = some 58 := zgR_ok (zC_lt h (by decide)) rfl (zC_R h 44 rfl)
theorem gR_46_24 {M : zM} (h : zC M) : zgR 9 M 46 24 = some 59 := zgR_ok (zC_lt h (by decide)) rfl (zC_R h 45 rfl)
theorem gR_46_25 {M : zM} (h : zC M) : zgR 9 M 46 25 = some 60 := zgR_ok (zC_lt h (by decide)) rfl (zC_R h 46 rfl)
theorem gR_46_26 {M : zM} (h : zC M) : zgR 9 M 46 26 = some 61 := zgR_ok (zC_lt h (by decide)) rfl (zC_R h 47 rfl)
theorem gR_46_27 {M : zM} (h : zC M) : zgR 9 M 46 27 = some 62 := zgR_ok (zC_lt h (by decide)) rfl (zC_R h 48 rfl)
theorem gR_46_30 {M : zM} (h : zC M) : zgR 9 M 46 30 = some 63 := zgR_ok (zC_lt h (by decide)) rfl (zC_R h 49 rfl)
theorem gR_46_31 {M : zM} (h : zC M) : zgR 9 M 46 31 = some 64 := zgR_ok (zC_lt h (by decide)) rfl (zC_R h 50 rfl)
theorem gR_46_32 {M : zM} (h : zC M) : zgR 9 M 46 32 = some 65 := zgR_ok (zC_lt h (by decide)) rfl (zC_R h 51 rfl)
theorem gR_46_33 {M : zM} (h : zC M) : zgR 9 M 46 33 = some 66 := zgR_ok (zC_lt h (by decide)) rfl (zC_R h 52 rfl)
theorem gR_46_34 {M : zM} (h : zC M) : zgR 9 M 46 34 = some 67 := zgR_ok (zC_lt h (by decide)) rfl (zC_R h 53 rfl)
theorem gR_46_35 {M : zM} (h : zC M) : zgR 9 M 46 35 = some 68 := zgR_ok (zC_lt h (by decide)) rfl (zC_R h 54 rfl)
theorem gR_46_45 {M : zM} (h : zC M) : zgR 9 M 46 45 = some 69 := zgR_ok (zC_lt h (by decide)) rfl (zC_R h 55 rfl)
theorem gR_46_47 {M : zM} (h : zC M) : zgR 9 M 46 47 = some 70 := zgR_ok (zC_lt h (by decide)) rfl (zC_R h 56 rfl)
theorem gR_46_48 {M : zM} (h : zC M) : zgR 9 M 46 48 = some 71 := zgR_ok (zC_lt h (by decide)) rfl (zC_R h 57 rfl)
theorem lI_2 {M : zM} {i : Nat} (h : zC M) (hi : i < 200) : zlI 100 M 2 (nI i) = some (zI M 2 i) := zlI_ok (zC_lt h (by decide)) rfl (zC_L h 0 rfl) (by decide) hi
theorem tI_2 {M : zM} {i : Nat} (h : zC M) (hi : i < 200) (v : Int32) : ztI M 2 (nI i) v = some (zsI M 2 i v) := ztI_ok (zC_lt h (by decide)) rfl (zC_L h 0 rfl) (by decide) hi v
theorem ln_2 {M : zM} (h : zC M) : zln M 2 = some (nI 200) := zln_ok (zC_lt h (by decide)) (by decide) (by decide) (zC_L h 0 rfl)
theorem lI_5 {M : zM} {i : Nat} (h : zC M) (hi : i < 14) : zlI 100 M 5 (nI i) = some (zI M 5 i) := zlI_ok (zC_lt h (by decide)) rfl (zC_L h 2 rfl) (by decide) hi
theorem tI_5 {M : zM} {i : Nat} (h : zC M) (hi : i < 14) (v : Int32) : ztI M 5 (nI i) v = some (zsI M 5 i v) := ztI_ok (zC_lt h (by decide)) rfl (zC_L h 2 rfl) (by decide) hi v
theorem ln_5 {M : zM} (h : zC M) : zln M 5 = some (nI 14) := zln_ok (zC_lt h (by decide)) (by decide) (by decide) (zC_L h 2 rfl)
theorem lI_7 {M : zM} {i : Nat} (h : zC M) (hi : i < 12) : zlI 100 M 7 (nI i) = some (zI M 7 i) := zlI_ok (zC_lt h (by decide)) rfl (zC_L h 3 rfl) (by decide) hi
theorem tI_7 {M : zM} {i : Nat} (h : zC M) (hi : i < 12) (v : Int32) : ztI M 7 (nI i) v = some (zsI M 7 i v) := ztI_ok (zC_lt h (by decide)) rfl (zC_L h 3 rfl) (by decide) hi v
theorem ln_7 {M : zM} (h : zC M) : zln M 7 = some (nI 12) := zln_ok (zC_lt h (by decide)) (by decide) (by decide) (zC_L h 3 rfl)
theorem lI_8 {M : zM} {i : Nat} (h : zC M) (hi : i < 3) : zlI 100 M 8 (nI i) = some (zI M 8 i) := zlI_ok (zC_lt h (by decide)) rfl (zC_L h 4 rfl) (by decide) hi
theorem tI_8 {M : zM} {i : Nat} (h : zC M) (hi : i < 3) (v : Int32) : ztI M 8 (nI i) v = some (zsI M 8 i v) := ztI_ok (zC_lt h (by decide)) rfl (zC_L h 4 rfl) (by decide) hi v
theorem ln_8 {M : zM} (h : zC M) : zln M 8 = some (nI 3) := zln_ok (zC_lt h (by decide)) (by decide) (by decide) (zC_L h 4 rfl)
theorem lI_10 {M : zM} {i : Nat} (h : zC M) (hi : i < 64) : zlI 100 M 10 (nI i) = some (zI M 10 i) := zlI_ok (zC_lt h (by decide)) rfl (zC_L h 5 rfl) (by decide) hi
theorem tI_10 {M : zM} {i : Nat} (h : zC M) (hi : i < 64) (v : Int32) : ztI M 10 (nI i) v = some (zsI M 10 i v) := ztI_ok (zC_lt h (by decide)) rfl (zC_L h 5 rfl) (by decide) hi v
theorem ln_10 {M : zM} (h : zC M) : zln M 10 = some (nI 64) := zln_ok (zC_lt h (by decide)) (by decide) (by decide) (zC_L h 5 rfl)
theorem lI_13 {M : zM} {i : Nat} (h : zC M) (hi : i < 8) : zlI 100 M 13 (nI i) = some (zI M 13 i) := zlI_ok (zC_lt h (by decide)) rfl (zC_L h 7 rfl) (by decide) hi
theorem tI_13 {M : zM} {i : Nat} (h : zC M) (hi : i < 8) (v : Int32) : ztI M 13 (nI i) v = some (zsI M 13 i v) := ztI_ok (zC_lt h (by decide)) rfl (zC_L h 7 rfl) (by decide) hi v
theorem ln_13 {M : zM} (h : zC M) : zln M 13 = some (nI 8) := zln_ok (zC_lt h (by decide)) (by decide) (by decide) (zC_L h 7 rfl)
theorem lI_14 {M : zM} {i : Nat} (h : zC M) (hi : i < 8) : zlI 100 M 14 (nI i) = some (zI M 14 i) := zlI_ok (zC_lt h (by decide)) rfl (zC_L h 8 rfl) (by decide) hi
theorem tI_14 {M : zM} {i : Nat} (h : zC M) (hi : i < 8) (v : Int32) : ztI M 14 (nI i) v = some (zsI M 14 i v) := ztI_ok (zC_lt h (by decide)) rfl (zC_L h 8 rfl) (by decide) hi v
theorem ln_14 {M : zM} (h : zC M) : zln M 14 = some (nI 8) := zln_ok (zC_lt h (by decide)) (by decide) (by decide) (zC_L h 8 rfl)
theorem lI_15 {M : zM} {i : Nat} (h : zC M) (hi : i < 8) : zlI 100 M 15 (nI i) = some (zI M 15 i) := zlI_ok (zC_lt h (by decide)) rfl (zC_L h 9 rfl) (by decide) hi
theorem tI_15 {M : zM} {i : Nat} (h : zC M) (hi : i < 8) (v : Int32) : ztI M 15 (nI i) v = some (zsI M 15 i v) := ztI_ok (zC_lt h (by decide)) rfl (zC_L h 9 rfl) (by decide) hi v
theorem ln_15 {M : zM} (h : zC M) : zln M 15 = some (nI 8) := zln_ok (zC_lt h (by decide)) (by decide) (by decide) (zC_L h 9 rfl)
theorem lI_16 {M : zM} {i : Nat} (h : zC M) (hi : i < 8) : zlI 100 M 16 (nI i) = some (zI M 16 i) := zlI_ok (zC_lt h (by decide)) rfl (zC_L h 10 rfl) (by decide) hi
theorem tI_16 {M : zM} {i : Nat} (h : zC M) (hi : i < 8) (v : Int32) : ztI M 16 (nI i) v = some (zsI M 16 i v) := ztI_ok (zC_lt h (by decide)) rfl (zC_L h 10 rfl) (by decide) hi v
theorem ln_16 {M : zM} (h : zC M) : zln M 16 = some (nI 8) := zln_ok (zC_lt h (by decide)) (by decide) (by decide) (zC_L h 10 rfl)
theorem lI_17 {M : zM} {i : Nat} (h : zC M) (hi : i < 8) : zlI 100 M 17 (nI i) = some (zI M 17 i) := zlI_ok (zC_lt h (by decide)) rfl (zC_L h 11 rfl) (by decide) hi
theorem tI_17 {M : zM} {i : Nat} (h : zC M) (hi : i < 8) (v : Int32) : ztI M 17 (nI i) v = some (zsI M 17 i v) := ztI_ok (zC_lt h (by decide)) rfl (zC_L h 11 rfl) (by decide) hi v
theorem ln_17 {M : zM} (h : zC M) : zln M 17 = some (nI 8) := zln_ok (zC_lt h (by decide)) (by decide) (by decide) (zC_L h 11 rfl)
theorem lI_18 {M : zM} {i : Nat} (h : zC M) (hi : i < 8) : zlI 100 M 18 (nI i) = some (zI M 18 i) := zlI_ok (zC_lt h (by decide)) rfl (zC_L h 12 rfl) (by decide) hi
theorem tI_18 {M : zM} {i : Nat} (h : zC M) (hi : i < 8) (v : Int32) : ztI M 18 (nI i) v = some (zsI M 18 i v) := ztI_ok (zC_lt h (by decide)) rfl (zC_L h 12 rfl) (by decide) hi v
theorem ln_18 {M : zM} (h : zC M) : zln M 18 = some (nI 8) := zln_ok (zC_lt h (by decide)) (by decide) (by decide) (zC_L h 12 rfl)
theorem lI_19 {M : zM} {i : Nat} (h : zC M) (hi : i < 8) : zlI 100 M 19 (nI i) = some (zI M 19 i) := zlI_ok (zC_lt h (by decide)) rfl (zC_L h 13 rfl) (by decide) hi
theorem tI_19 {M : zM} {i : Nat} (h : zC M) (hi : i < 8) (v : Int32) : ztI M 19 (nI i) v = some (zsI M 19 i v) := ztI_ok (zC_lt h (by decide)) rfl (zC_L h 13 rfl) (by decide) hi v
theorem ln_19 {M : zM} (h : zC M) : zln M 19 = some (nI 8) := zln_ok (zC_lt h (by decide)) (by decide) (by decide) (zC_L h 13 rfl)
theorem lI_20 {M : zM} {i : Nat} (h : zC M) (hi : i < 8) : zlI 100 M 20 (nI i) = some (zI M 20 i) := zlI_ok (zC_lt h (by decide)) rfl (zC_L h 14 rfl) (by decide) hi
theorem tI_20 {M : zM} {i : Nat} (h : zC M) (hi : i < 8) (v : Int32) : ztI M 20 (nI i) v = some (zsI M 20 i v) := ztI_ok (zC_lt h (by decide)) rfl (zC_L h 14 rfl) (by decide) hi v
theorem ln_20 {M : zM} (h : zC M) : zln M 20 = some (nI 8) := zln_ok (zC_lt h (by decide)) (by decide) (by decide) (zC_L h 14 rfl)
theorem lI_21 {M : zM} {i : Nat} (h : zC M) (hi : i < 8) : zlI 100 M 21 (nI i) = some (zI M 21 i) := zlI_ok (zC_lt h (by decide)) rfl (zC_L h 15 rfl) (by decide) hi
theorem tI_21 {M : zM} {i : Nat} (h : zC M) (hi : i < 8) (v : Int32) : ztI M 21 (nI i) v = some (zsI M 21 i v) := ztI_ok (zC_lt h (by decide)) rfl (zC_L h 15 rfl) (by decide) hi v
theorem ln_21 {M : zM} (h : zC M) : zln M 21 = some (nI 8) := zln_ok (zC_lt h (by decide)) (by decide) (by decide) (zC_L h 15 rfl)
theorem lI_22 {M : zM} {i : Nat} (h : zC M) (hi : i < 8) : zlI 100 M 22 (nI i) = some (zI M 22 i) := zlI_ok (zC_lt h (by decide)) rfl (zC_L h 16 rfl) (by decide) hi
theorem tI_22 {M : zM} {i : Nat} (h : zC M) (hi : i < 8) (v : Int32) : ztI M 22 (nI i) v = some (zsI M 22 i v) := ztI_ok (zC_lt h (by decide)) rfl (zC_L h 16 rfl) (by decide) hi v
theorem ln_22 {M : zM} (h : zC M) : zln M 22 = some (nI 8) := zln_ok (zC_lt h (by decide)) (by decide) (by decide) (zC_L h 16 rfl)
theorem lI_25 {M : zM} {i : Nat} (h : zC M) (hi : i < 7) : zlI 100 M 25 (nI i) = some (zI M 25 i) := zlI_ok (zC_lt h (by decide)) rfl (zC_L h 17 rfl) (by decide) hi
theorem tI_25 {M : zM} {i : Nat} (h : zC M) (hi : i < 7) (v : Int32) : ztI M 25 (nI i) v = some (zsI M 25 i v) := ztI_ok (zC_lt h (by decide)) rfl (zC_L h 17 rfl) (by decide) hi v
theorem ln_25 {M : zM} (h : zC M) : zln M 25 = some (nI 7) := zln_ok (zC_lt h (by decide)) (by decide) (by decide) (zC_L h 17 rfl)
theorem lI_26 {M : zM} {i : Nat} (h : zC M) (hi : i < 14) : zlI 100 M 26 (nI i) = some (zI M 26 i) := zlI_ok (zC_lt h (by decide)) rfl (zC_L h 18 rfl) (by decide) hi
theorem tI_26 {M : zM} {i : Nat} (h : zC M) (hi : i < 14) (v : Int32) : ztI M 26 (nI i) v = some (zsI M 26 i v) := ztI_ok (zC_lt h (by decide)) rfl (zC_L h 18 rfl) (by decide) hi v
theorem ln_26 {M : zM} (h : zC M) : zln M 26 = some (nI 14) := zln_ok (zC_lt h (by decide)) (by decide) (by decide) (zC_L h 18 rfl)
theorem lI_27 {M : zM} {i : Nat} (h : zC M) (hi : i < 128) : zlI 100 M 27 (nI i) = some (zI M 27 i) := zlI_ok (zC_lt h (by decide)) rfl (zC_L h 19 rfl) (by decide) hi
theorem tI_27 {M : zM} {i : Nat} (h : zC M) (hi : i < 128) (v : Int32) : ztI M 27 (nI i) v = some (zsI M 27 i v) := ztI_ok (zC_lt h (by decide)) rfl (zC_L h 19 rfl) (by decide) hi v
theorem ln_27 {M : zM} (h : zC M) : zln M 27 = some (nI 128) := zln_ok (zC_lt h (by decide)) (by decide) (by decide) (zC_L h 19 rfl)
theorem lI_30 {M : zM} {i : Nat} (h : zC M) (hi : i < 7) : zlI 100 M 30 (nI i) = some (zI M 30 i) := zlI_ok (zC_lt h (by decide)) rfl (zC_L h 20 rfl) (by decide) hi
theorem tI_30 {M : zM} {i : Nat} (h : zC M) (hi : i < 7) (v : Int32) : ztI M 30 (nI i) v = some (zsI M 30 i v) := ztI_ok (zC_lt h (by decide)) rfl (zC_L h 20 rfl) (by decide) hi v
theorem ln_30 {M : zM} (h : zC M) : zln M 30 = some (nI 7) := zln_ok (zC_lt h (by decide)) (by decide) (by decide) (zC_L h 20 rfl)
theorem lI_31 {M : zM} {i : Nat} (h : zC M) (hi : i < 14) : zlI 100 M 31 (nI i) = some (zI M 31 i) := zlI_ok (zC_lt h (by decide)) rfl (zC_L h 21 rfl) (by decide) hi
theorem tI_31 {M : zM} {i : Nat} (h : zC M) (hi : i < 14) (v : Int32) : ztI M 31 (nI i) v = some (zsI M 31 i v) := ztI_ok (zC_lt h (by decide)) rfl (zC_L h 21 rfl) (by decide) hi v
theorem ln_31 {M : zM} (h : zC M) : zln M 31 = some (nI 14) := zln_ok (zC_lt h (by decide)) (by decide) (by decide) (zC_L h 21 rfl)
theorem lI_32 {M : zM} {i : Nat} (h : zC M) (hi : i < 128) : zlI 100 M 32 (nI i) = some (zI M 32 i) := zlI_ok (zC_lt h (by decide)) rfl (zC_L h 22 rfl) (by decide) hi
theorem tI_32 {M : zM} {i : Nat} (h : zC M) (hi : i < 128) (v : Int32) : ztI M 32 (nI i) v = some (zsI M 32 i v) := ztI_ok (zC_lt h (by decide)) rfl (zC_L h 22 rfl) (by decide) hi v
theorem ln_32 {M : zM} (h : zC M) : zln M 32 = some (nI 128) := zln_ok (zC_lt h (by decide)) (by decide) (by decide) (zC_L h 22 rfl)
theorem lI_35 {M : zM} {i : Nat} (h : zC M) (hi : i < 7) : zlI 100 M 35 (nI i) = some (zI M 35 i) := zlI_ok (zC_lt h (by decide)) rfl (zC_L h 23 rfl) (by decide) hi
theorem tI_35 {M : zM} {i : Nat} (h : zC M) (hi : i < 7) (v : Int32) : ztI M 35 (nI i) v = some (zsI M 35 i v) := ztI_ok (zC_lt h (by decide)) rfl (zC_L h 23 rfl) (by decide) hi v
theorem ln_35 {M : zM} (h : zC M) : zln M 35 = some (nI 7) := zln_ok (zC_lt h (by decide)) (by decide) (by decide) (zC_L h 23 rfl)
theorem lI_36 {M : zM} {i : Nat} (h : zC M) (hi : i < 14) : zlI 100 M 36 (nI i) = some (zI M 36 i) := zlI_ok (zC_lt h (by decide)) rfl (zC_L h 24 rfl) (by decide) hi
theorem tI_36 {M : zM} {i : Nat} (h : zC M) (hi : i < 14) (v : Int32) : ztI M 36 (nI i) v = some (zsI M 36 i v) := ztI_ok (zC_lt h (by decide)) rfl (zC_L h 24 rfl) (by decide) hi v
theorem ln_36 {M : zM} (h : zC M) : zln M 36 = some (nI 14) := zln_ok (zC_lt h (by decide)) (by decide) (by decide) (zC_L h 24 rfl)
theorem lI_37 {M : zM} {i : Nat} (h : zC M) (hi : i < 128) : zlI 100 M 37 (nI i) = some (zI M 37 i) := zlI_ok (zC_lt h (by decide)) rfl (zC_L h 25 rfl) (by decide) hi
theorem tI_37 {M : zM} {i : Nat} (h : zC M) (hi : i < 128) (v : Int32) : ztI M 37 (nI i) v = some (zsI M 37 i v) := ztI_ok (zC_lt h (by decide)) rfl (zC_L h 25 rfl) (by decide) hi v
theorem ln_37 {M : zM} (h : zC M) : zln M 37 = some (nI 128) := zln_ok (zC_lt h (by decide)) (by decide) (by decide) (zC_L h 25 rfl)
theorem lI_39 {M : zM} {i : Nat} (h : zC M) (hi : i < 1096) : zlI 100 M 39 (nI i) = some (zI M 39 i) := zlI_ok (zC_lt h (by decide)) rfl (zC_L h 26 rfl) (by decide) hi
theorem tI_39 {M : zM} {i : Nat} (h : zC M) (hi : i < 1096) (v : Int32) : ztI M 39 (nI i) v = some (zsI M 39 i v) := ztI_ok (zC_lt h (by decide)) rfl (zC_L h 26 rfl) (by decide) hi v
theorem ln_39 {M : zM} (h : zC M) : zln M 39 = some (nI 1096) := zln_ok (zC_lt h (by decide)) (by decide) (by decide) (zC_L h 26 rfl)
theorem lI_40 {M : zM} {i : Nat} (h : zC M) (hi : i < 1096) : zlI 100 M 40 (nI i) = some (zI M 40 i) := zlI_ok (zC_lt h (by decide)) rfl (zC_L h 27 rfl) (by decide) hi
theorem tI_40 {M : zM} {i : Nat} (h : zC M) (hi : i < 1096) (v : Int32) : ztI M 40 (nI i) v = some (zsI M 40 i v) := ztI_ok (zC_lt h (by decide)) rfl (zC_L h 27 rfl) (by decide) hi v
theorem ln_40 {M : zM} (h : zC M) : zln M 40 = some (nI 1096) := zln_ok (zC_lt h (by decide)) (by decide) (by decide) (zC_L h 27 rfl)
theorem lI_41 {M : zM} {i : Nat} (h : zC M) (hi : i < 2048) : zlI 100 M 41 (nI i) = some (zI M 41 i) := zlI_ok (zC_lt h (by decide)) rfl (zC_L h 28 rfl) (by decide) hi
theorem tI_41 {M : zM} {i : Nat} (h : zC M) (hi : i < 2048) (v : Int32) : ztI M 41 (nI i) v = some (zsI M 41 i v) := ztI_ok (zC_lt h (by decide)) rfl (zC_L h 28 rfl) (by decide) hi v
theorem ln_41 {M : zM} (h : zC M) : zln M 41 = some (nI 2048) := zln_ok (zC_lt h (by decide)) (by decide) (by decide) (zC_L h 28 rfl)
theorem lI_43 {M : zM} {i : Nat} (h : zC M) (hi : i < 14) : zlI 100 M 43 (nI i) = some (zI M 43 i) := zlI_ok (zC_lt h (by decide)) rfl (zC_L h 29 rfl) (by decide) hi
theorem tI_43 {M : zM} {i : Nat} (h : zC M) (hi : i < 14) (v : Int32) : ztI M 43 (nI i) v = some (zsI M 43 i v) := ztI_ok (zC_lt h (by decide)) rfl (zC_L h 29 rfl) (by decide) hi v
theorem ln_43 {M : zM} (h : zC M) : zln M 43 = some (nI 14) := zln_ok (zC_lt h (by decide)) (by decide) (by decide) (zC_L h 29 rfl)
theorem lI_44 {M : zM} {i : Nat} (h : zC M) (hi : i < 7) : zlI 100 M 44 (nI i) = some (zI M 44 i) := zlI_ok (zC_lt h (by decide)) rfl (zC_L h 30 rfl) (by decide) hi
theorem tI_44 {M : zM} {i : Nat} (h : zC M) (hi : i < 7) (v : Int32) : ztI M 44 (nI i) v = some (zsI M 44 i v) := ztI_ok (zC_lt h (by decide)) rfl (zC_L h 30 rfl) (by decide) hi v
theorem ln_44 {M : zM} (h : zC M) : zln M 44 = some (nI 7) := zln_ok (zC_lt h (by decide)) (by decide) (by decide) (zC_L h 30 rfl)
theorem lI_45 {M : zM} {i : Nat} (h : zC M) (hi : i < 14) : zlI 100 M 45 (nI i) = some (zI M 45 i) := zlI_ok (zC_lt h (by decide)) rfl (zC_L h 31 rfl) (by decide) hi
theorem tI_45 {M : zM} {i : Nat} (h : zC M) (hi : i < 14) (v : Int32) : ztI M 45 (nI i) v = some (zsI M 45 i v) := ztI_ok (zC_lt h (by decide)) rfl (zC_L h 31 rfl) (by decide) hi v
theorem ln_45 {M : zM} (h : zC M) : zln M 45 = some (nI 14) := zln_ok (zC_lt h (by decide)) (by decide) (by decide) (zC_L h 31 rfl)
theorem lI_47 {M : zM} {i : Nat} (h : zC M) (hi : i < 8) : zlI 100 M 47 (nI i) = some (zI M 47 i) := zlI_ok (zC_lt h (by decide)) rfl (zC_L h 32 rfl) (by decide) hi
theorem tI_47 {M : zM} {i : Nat} (h : zC M) (hi : i < 8) (v : Int32) : ztI M 47 (nI i) v = some (zsI M 47 i v) := ztI_ok (zC_lt h (by decide)) rfl (zC_L h 32 rfl) (by decide) hi v
theorem ln_47 {M : zM} (h : zC M) : zln M 47 = some (nI 8) := zln_ok (zC_lt h (by decide)) (by decide) (by decide) (zC_L h 32 rfl)
theorem lI_48 {M : zM} {i : Nat} (h : zC M) (hi : i < 200) : zlI 102 M 48 (nI i) = some (zI M 48 i) := zlI_ok (zC_lt h (by decide)) rfl (zC_L h 33 rfl) (by decide) hi
theorem tI_48 {M : zM} {i : Nat} (h : zC M) (hi : i < 200) (v : Int32) : ztB M 48 (nI i) v = some (zsI M 48 i (vp_nar .byte v)) := ztB_ok (zC_lt h (by decide)) rfl (zC_L h 33 rfl) (by decide) hi v
theorem ln_48 {M : zM} (h : zC M) : zln M 48 = some (nI 200) := zln_ok (zC_lt h (by decide)) (by decide) (by decide) (zC_L h 33 rfl)
theorem lI_49 {M : zM} {i : Nat} (h : zC M) (hi : i < 200) : zlI 102 M 49 (nI i) = some (zI M 49 i) := zlI_ok (zC_lt h (by decide)) rfl (zC_L h 34 rfl) (by decide) hi
theorem tI_49 {M : zM} {i : Nat} (h : zC M) (hi : i < 200) (v : Int32) : ztB M 49 (nI i) v = some (zsI M 49 i (vp_nar .byte v)) := ztB_ok (zC_lt h (by decide)) rfl (zC_L h 34 rfl) (by decide) hi v
theorem ln_49 {M : zM} (h : zC M) : zln M 49 = some (nI 200) := zln_ok (zC_lt h (by decide)) (by decide) (by decide) (zC_L h 34 rfl)
theorem lI_50 {M : zM} {i : Nat} (h : zC M) (hi : i < 26) : zlI 100 M 50 (nI i) = some (zI M 50 i) := zlI_ok (zC_lt h (by decide)) rfl (zC_L h 35 rfl) (by decide) hi
theorem tI_50 {M : zM} {i : Nat} (h : zC M) (hi : i < 26) (v : Int32) : ztI M 50 (nI i) v = some (zsI M 50 i v) := ztI_ok (zC_lt h (by decide)) rfl (zC_L h 35 rfl) (by decide) hi v
theorem ln_50 {M : zM} (h : zC M) : zln M 50 = some (nI 26) := zln_ok (zC_lt h (by decide)) (by decide) (by decide) (zC_L h 35 rfl)
theorem lI_51 {M : zM} {i : Nat} (h : zC M) (hi : i < 26) : zlI 100 M 51 (nI i) = some (zI M 51 i) := zlI_ok (zC_lt h (by decide)) rfl (zC_L h 36 rfl) (by decide) hi
theorem tI_51 {M : zM} {i : Nat} (h : zC M) (hi : i < 26) (v : Int32) : ztI M 51 (nI i) v = some (zsI M 51 i v) := ztI_ok (zC_lt h (by decide)) rfl (zC_L h 36 rfl) (by decide) hi v
theorem ln_51 {M : zM} (h : zC M) : zln M 51 = some (nI 26) := zln_ok (zC_lt h (by decide)) (by decide) (by decide) (zC_L h 36 rfl)
theorem lI_52 {M : zM} {i : Nat} (h : zC M) (hi : i < 26) : zlI 100 M 52 (nI i) = some (zI M 52 i) := zlI_ok (zC_lt h (by decide)) rfl (zC_L h 37 rfl) (by decide) hi
theorem tI_52 {M : zM} {i : Nat} (h : zC M) (hi : i < 26) (v : Int32) : ztI M 52 (nI i) v = some (zsI M 52 i v) := ztI_ok (zC_lt h (by decide)) rfl (zC_L h 37 rfl) (by decide) hi v
theorem ln_52 {M : zM} (h : zC M) : zln M 52 = some (nI 26) := zln_ok (zC_lt h (by decide)) (by decide) (by decide) (zC_L h 37 rfl)
theorem lI_53 {M : zM} {i : Nat} (h : zC M) (hi : i < 96) : zlI 100 M 53 (nI i) = some (zI M 53 i) := zlI_ok (zC_lt h (by decide)) rfl (zC_L h 38 rfl) (by decide) hi
theorem tI_53 {M : zM} {i : Nat} (h : zC M) (hi : i < 96) (v : Int32) : ztI M 53 (nI i) v = some (zsI M 53 i v) := ztI_ok (zC_lt h (by decide)) rfl (zC_L h 38 rfl) (by decide) hi v
theorem ln_53 {M : zM} (h : zC M) : zln M 53 = some (nI 96) := zln_ok (zC_lt h (by decide)) (by decide) (by decide) (zC_L h 38 rfl)
theorem lI_54 {M : zM} {i : Nat} (h : zC M) (hi : i < 8) : zlI 100 M 54 (nI i) = some (zI M 54 i) := zlI_ok (zC_lt h (by decide)) rfl (zC_L h 39 rfl) (by decide) hi
theorem tI_54 {M : zM} {i : Nat} (h : zC M) (hi : i < 8) (v : Int32) : ztI M 54 (nI i) v = some (zsI M 54 i v) := ztI_ok (zC_lt h (by decide)) rfl (zC_L h 39 rfl) (by decide) hi v
theorem ln_54 {M : zM} (h : zC M) : zln M 54 = some (nI 8) := zln_ok (zC_lt h (by decide)) (by decide) (by decide) (zC_L h 39 rfl)
theorem lI_55 {M : zM} {i : Nat} (h : zC M) (hi : i < 24) : zlI 100 M 55 (nI i) = some (zI M 55 i) := zlI_ok (zC_lt h (by decide)) rfl (zC_L h 40 rfl) (by decide) hi
theorem tI_55 {M : zM} {i : Nat} (h : zC M) (hi : i < 24) (v : Int32) : ztI M 55 (nI i) v = some (zsI M 55 i v) := ztI_ok (zC_lt h (by decide)) rfl (zC_L h 40 rfl) (by decide) hi v
theorem ln_55 {M : zM} (h : zC M) : zln M 55 = some (nI 24) := zln_ok (zC_lt h (by decide)) (by decide) (by decide) (zC_L h 40 rfl)
theorem lI_56 {M : zM} {i : Nat} (h : zC M) (hi : i < 3) : zlI 103 M 56 (nI i) = some (zI M 56 i) := zlI_ok (zC_lt h (by decide)) rfl (zC_L h 41 rfl) (by decide) hi
theorem tI_56 {M : zM} {i : Nat} (h : zC M) (hi : i < 3) (v : Int32) : ztZ M 56 (nI i) v = some (zsI M 56 i (vp_nar .boolean v)) := ztZ_ok (zC_lt h (by decide)) rfl (zC_L h 41 rfl) (by decide) hi v
theorem ln_56 {M : zM} (h : zC M) : zln M 56 = some (nI 3) := zln_ok (zC_lt h (by decide)) (by decide) (by decide) (zC_L h 41 rfl)
theorem lI_57 {M : zM} {i : Nat} (h : zC M) (hi : i < 8) : zlI 100 M 57 (nI i) = some (zI M 57 i) := zlI_ok (zC_lt h (by decide)) rfl (zC_L h 42 rfl) (by decide) hi
theorem tI_57 {M : zM} {i : Nat} (h : zC M) (hi : i < 8) (v : Int32) : ztI M 57 (nI i) v = some (zsI M 57 i v) := ztI_ok (zC_lt h (by decide)) rfl (zC_L h 42 rfl) (by decide) hi v
theorem ln_57 {M : zM} (h : zC M) : zln M 57 = some (nI 8) := zln_ok (zC_lt h (by decide)) (by decide) (by decide) (zC_L h 42 rfl)
theorem lI_58 {M : zM} {i : Nat} (h : zC M) (hi : i < 8) : zlI 100 M 58 (nI i) = some (zI M 58 i) := zlI_ok (zC_lt h (by decide)) rfl (zC_L h 43 rfl) (by decide) hi
theorem tI_58 {M : zM} {i : Nat} (h : zC M) (hi : i < 8) (v : Int32) : ztI M 58 (nI i) v = some (zsI M 58 i v) := ztI_ok (zC_lt h (by decide)) rfl (zC_L h 43 rfl) (by decide) hi v
theorem ln_58 {M : zM} (h : zC M) : zln M 58 = some (nI 8) := zln_ok (zC_lt h (by decide)) (by decide) (by decide) (zC_L h 43 rfl)
theorem lI_59 {M : zM} {i : Nat} (h : zC M) (hi : i < 64) : zlI 100 M 59 (nI i) = some (zI M 59 i) := zlI_ok (zC_lt h (by decide)) rfl (zC_L h 44 rfl) (by decide) hi
theorem tI_59 {M : zM} {i : Nat} (h : zC M) (hi : i < 64) (v : Int32) : ztI M 59 (nI i) v = some (zsI M 59 i v) := ztI_ok (zC_lt h (by decide)) rfl (zC_L h 44 rfl) (by decide) hi v
theorem ln_59 {M : zM} (h : zC M) : zln M 59 = some (nI 64) := zln_ok (zC_lt h (by decide)) (by decide) (by decide) (zC_L h 44 rfl)
theorem lI_60 {M : zM} {i : Nat} (h : zC M) (hi : i < 64) : zlI 100 M 60 (nI i) = some (zI M 60 i) := zlI_ok (zC_lt h (by decide)) rfl (zC_L h 45 rfl) (by decide) hi
theorem tI_60 {M : zM} {i : Nat} (h : zC M) (hi : i < 64) (v : Int32) : ztI M 60 (nI i) v = some (zsI M 60 i v) := ztI_ok (zC_lt h (by decide)) rfl (zC_L h 45 rfl) (by decide) hi v
theorem ln_60 {M : zM} (h : zC M) : zln M 60 = some (nI 64) := zln_ok (zC_lt h (by decide)) (by decide) (by decide) (zC_L h 45 rfl)
theorem lI_61 {M : zM} {i : Nat} (h : zC M) (hi : i < 8) : zlI 100 M 61 (nI i) = some (zI M 61 i) := zlI_ok (zC_lt h (by decide)) rfl (zC_L h 46 rfl) (by decide) hi
theorem tI_61 {M : zM} {i : Nat} (h : zC M) (hi : i < 8) (v : Int32) : ztI M 61 (nI i) v = some (zsI M 61 i v) := ztI_ok (zC_lt h (by decide)) rfl (zC_L h 46 rfl) (by decide) hi v
theorem ln_61 {M : zM} (h : zC M) : zln M 61 = some (nI 8) := zln_ok (zC_lt h (by decide)) (by decide) (by decide) (zC_L h 46 rfl)
theorem lI_62 {M : zM} {i : Nat} (h : zC M) (hi : i < 8) : zlI 100 M 62 (nI i) = some (zI M 62 i) := zlI_ok (zC_lt h (by decide)) rfl (zC_L h 47 rfl) (by decide) hi
theorem tI_62 {M : zM} {i : Nat} (h : zC M) (hi : i < 8) (v : Int32) : ztI M 62 (nI i) v = some (zsI M 62 i v) := ztI_ok (zC_lt h (by decide)) rfl (zC_L h 47 rfl) (by decide) hi v
theorem ln_62 {M : zM} (h : zC M) : zln M 62 = some (nI 8) := zln_ok (zC_lt h (by decide)) (by decide) (by decide) (zC_L h 47 rfl)
theorem lI_63 {M : zM} {i : Nat} (h : zC M) (hi : i < 8) : zlI 100 M 63 (nI i) = some (zI M 63 i) := zlI_ok (zC_lt h (by decide)) rfl (zC_L h 48 rfl) (by decide) hi
theorem tI_63 {M : zM} {i : Nat} (h : zC M) (hi : i < 8) (v : Int32) : ztI M 63 (nI i) v = some (zsI M 63 i v) := ztI_ok (zC_lt h (by decide)) rfl (zC_L h 48 rfl) (by decide) hi v
theorem ln_63 {M : zM} (h : zC M) : zln M 63 = some (nI 8) := zln_ok (zC_lt h (by decide)) (by decide) (by decide) (zC_L h 48 rfl)
theorem lI_64 {M : zM} {i : Nat} (h : zC M) (hi : i < 14) : zlI 100 M 64 (nI i) = some (zI M 64 i) := zlI_ok (zC_lt h (by decide)) rfl (zC_L h 49 rfl) (by decide) hi
theorem tI_64 {M : zM} {i : Nat} (h : zC M) (hi : i < 14) (v : Int32) : ztI M 64 (nI i) v = some (zsI M 64 i v) := ztI_ok (zC_lt h (by decide)) rfl (zC_L h 49 rfl) (by decide) hi v
theorem ln_64 {M : zM} (h : zC M) : zln M 64 = some (nI 14) := zln_ok (zC_lt h (by decide)) (by decide) (by decide) (zC_L h 49 rfl)
theorem lI_65 {M : zM} {i : Nat} (h : zC M) (hi : i < 8) : zlI 100 M 65 (nI i) = some (zI M 65 i) := zlI_ok (zC_lt h (by decide)) rfl (zC_L h 50 rfl) (by decide) hi
theorem tI_65 {M : zM} {i : Nat} (h : zC M) (hi : i < 8) (v : Int32) : ztI M 65 (nI i) v = some (zsI M 65 i v) := ztI_ok (zC_lt h (by decide)) rfl (zC_L h 50 rfl) (by decide) hi v
theorem ln_65 {M : zM} (h : zC M) : zln M 65 = some (nI 8) := zln_ok (zC_lt h (by decide)) (by decide) (by decide) (zC_L h 50 rfl)
theorem lI_66 {M : zM} {i : Nat} (h : zC M) (hi : i < 8) : zlI 100 M 66 (nI i) = some (zI M 66 i) := zlI_ok (zC_lt h (by decide)) rfl (zC_L h 51 rfl) (by decide) hi
theorem tI_66 {M : zM} {i : Nat} (h : zC M) (hi : i < 8) (v : Int32) : ztI M 66 (nI i) v = some (zsI M 66 i v) := ztI_ok (zC_lt h (by decide)) rfl (zC_L h 51 rfl) (by decide) hi v
theorem ln_66 {M : zM} (h : zC M) : zln M 66 = some (nI 8) := zln_ok (zC_lt h (by decide)) (by decide) (by decide) (zC_L h 51 rfl)
theorem lI_67 {M : zM} {i : Nat} (h : zC M) (hi : i < 14) : zlI 100 M 67 (nI i) = some (zI M 67 i) := zlI_ok (zC_lt h (by decide)) rfl (zC_L h 52 rfl) (by decide) hi
theorem tI_67 {M : zM} {i : Nat} (h : zC M) (hi : i < 14) (v : Int32) : ztI M 67 (nI i) v = some (zsI M 67 i v) := ztI_ok (zC_lt h (by decide)) rfl (zC_L h 52 rfl) (by decide) hi v
theorem ln_67 {M : zM} (h : zC M) : zln M 67 = some (nI 14) := zln_ok (zC_lt h (by decide)) (by decide) (by decide) (zC_L h 52 rfl)
theorem lI_68 {M : zM} {i : Nat} (h : zC M) (hi : i < 14) : zlI 100 M 68 (nI i) = some (zI M 68 i) := zlI_ok (zC_lt h (by decide)) rfl (zC_L h 53 rfl) (by decide) hi
theorem tI_68 {M : zM} {i : Nat} (h : zC M) (hi : i < 14) (v : Int32) : ztI M 68 (nI i) v = some (zsI M 68 i v) := ztI_ok (zC_lt h (by decide)) rfl (zC_L h 53 rfl) (by decide) hi v
theorem ln_68 {M : zM} (h : zC M) : zln M 68 = some (nI 14) := zln_ok (zC_lt h (by decide)) (by decide) (by decide) (zC_L h 53 rfl)
theorem lI_69 {M : zM} {i : Nat} (h : zC M) (hi : i < 8) : zlI 100 M 69 (nI i) = some (zI M 69 i) := zlI_ok (zC_lt h (by decide)) rfl (zC_L h 54 rfl) (by decide) hi
theorem tI_69 {M : zM} {i : Nat} (h : zC M) (hi : i < 8) (v : Int32) : ztI M 69 (nI i) v = some (zsI M 69 i v) := ztI_ok (zC_lt h (by decide)) rfl (zC_L h 54 rfl) (by decide) hi v
theorem ln_69 {M : zM} (h : zC M) : zln M 69 = some (nI 8) := zln_ok (zC_lt h (by decide)) (by decide) (by decide) (zC_L h 54 rfl)
theorem lI_70 {M : zM} {i : Nat} (h : zC M) (hi : i < 2187) : zlI 100 M 70 (nI i) = some (zI M 70 i) := zlI_ok (zC_lt h (by decide)) rfl (zC_L h 55 rfl) (by decide) hi
theorem tI_70 {M : zM} {i : Nat} (h : zC M) (hi : i < 2187) (v : Int32) : ztI M 70 (nI i) v = some (zsI M 70 i v) := ztI_ok (zC_lt h (by decide)) rfl (zC_L h 55 rfl) (by decide) hi v
theorem ln_70 {M : zM} (h : zC M) : zln M 70 = some (nI 2187) := zln_ok (zC_lt h (by decide)) (by decide) (by decide) (zC_L h 55 rfl)
theorem lI_71 {M : zM} {i : Nat} (h : zC M) (hi : i < 2187) : zlI 100 M 71 (nI i) = some (zI M 71 i) := zlI_ok (zC_lt h (by decide)) rfl (zC_L h 56 rfl) (by decide) hi
theorem tI_71 {M : zM} {i : Nat} (h : zC M) (hi : i < 2187) (v : Int32) : ztI M 71 (nI i) v = some (zsI M 71 i v) := ztI_ok (zC_lt h (by decide)) rfl (zC_L h 56 rfl) (by decide) hi v
theorem ln_71 {M : zM} (h : zC M) : zln M 71 = some (nI 2187) := zln_ok (zC_lt h (by decide)) (by decide) (by decide) (zC_L h 56 rfl)
theorem ln_4 {M : zM} (h : zC M) : zln M 4 = some (nI 0) := zln_ok (zC_lt h (by decide)) (by decide) (by decide) (zC_L h 1 rfl)
theorem lR_12 {M : zM} {j : Nat} (h : zC M) (hj : j < 8) : zlR M 12 (nI j) = some (13 + j) := by
  unfold zlR
  rw [zC_L h 6 rfl, if_pos ⟨zC_lt h (by decide), rfl, zix (by decide) hj⟩, n_clamp (by omega)]
  have : ∀ j, j < 8 → zRc[58 + j]? = some (12, j, 13 + j) := by decide +kernel
  exact zC_R h _ (this j hj)
theorem kd_kn : ∀ j, j < 8 → kd (13 + j) = 100 := by decide +kernel
theorem zL_kn {M : zM} (h : zC M) {j : Nat} (hj : j < 8) : zL M (13 + j) = 8 := by
  have : ∀ j, j < 8 → zLc[7 + j]? = some (13 + j, 8) := by decide +kernel
  exact zC_L h _ (this j hj)
theorem lI_kn {M : zM} {j i : Nat} (h : zC M) (hj : j < 8) (hi : i < 8) : zlI 100 M (13 + j) (nI i) = some (zI M (13 + j) i) := zlI_ok (zC_lt h (by omega)) (kd_kn j hj) (zL_kn h hj) (by decide) hi
theorem tI_kn {M : zM} {j i : Nat} (h : zC M) (hj : j < 8) (hi : i < 8) (v : Int32) : ztI M (13 + j) (nI i) v = some (zsI M (13 + j) i v) := ztI_ok (zC_lt h (by omega)) (kd_kn j hj) (zL_kn h hj) (by decide) hi v
/-- the three Models -/
def zMo (m : Nat) : Prop := m = 23 ∨ m = 28 ∨ m = 33
theorem mo_ts {α : Type} {M : zM} {m : Nat} (h : zC M) (hm : zMo m) (t : Option α) : zthis 1 M m t = t := by rcases hm with rfl | rfl | rfl <;> exact zthis_ok (zC_lt h (by decide)) rfl t
theorem mo_g {M : zM} {m : Nat} (h : zC M) (hm : zMo m) (k : Nat) : zgI 1 M m k = some (zI M m k) := by rcases hm with rfl | rfl | rfl <;> exact zgI_ok (zC_lt h (by decide)) rfl k
theorem mo_p {M : zM} {m : Nat} (h : zC M) (hm : zMo m) (k : Nat) (v : Int32) : zpI 1 M m k v = some (zsI M m k v) := by rcases hm with rfl | rfl | rfl <;> exact zpI_ok (zC_lt h (by decide)) rfl k v
theorem mo_R6 {M : zM} {m : Nat} (h : zC M) (hm : zMo m) : zgR 1 M m 6 = some (m + 2) := by
  rcases hm with rfl | rfl | rfl
  · exact zgR_ok (zC_lt h (by decide)) rfl (zC_R h 20 rfl)
  · exact zgR_ok (zC_lt h (by decide)) rfl (zC_R h 23 rfl)
  · exact zgR_ok (zC_lt h (by decide)) rfl (zC_R h 26 rfl)
theorem mo_R7 {M : zM} {m : Nat} (h : zC M) (hm : zMo m) : zgR 1 M m 7 = some (m + 3) := by
  rcases hm with rfl | rfl | rfl
  · exact zgR_ok (zC_lt h (by decide)) rfl (zC_R h 21 rfl)
  · exact zgR_ok (zC_lt h (by decide)) rfl (zC_R h 24 rfl)
  · exact zgR_ok (zC_lt h (by decide)) rfl (zC_R h 27 rfl)
theorem mo_R8 {M : zM} {m : Nat} (h : zC M) (hm : zMo m) : zgR 1 M m 8 = some (m + 4) := by
  rcases hm with rfl | rfl | rfl
  · exact zgR_ok (zC_lt h (by decide)) rfl (zC_R h 22 rfl)
  · exact zgR_ok (zC_lt h (by decide)) rfl (zC_R h 25 rfl)
  · exact zgR_ok (zC_lt h (by decide)) rfl (zC_R h 28 rfl)
theorem mo_l2 {M : zM} {m i : Nat} (h : zC M) (hm : zMo m) (hi : i < 7) : zlI 100 M (m + 2) (nI i) = some (zI M (m + 2) i) := by
  rcases hm with rfl | rfl | rfl
  · exact lI_25 h hi
  · exact lI_30 h hi
  · exact lI_35 h hi
theorem mo_t2 {M : zM} {m i : Nat} (h : zC M) (hm : zMo m) (hi : i < 7) (v : Int32) : ztI M (m + 2) (nI i) v = some (zsI M (m + 2) i v) := by
  rcases hm with rfl | rfl | rfl
  · exact tI_25 h hi v
  · exact tI_30 h hi v
  · exact tI_35 h hi v
theorem mo_n2 {M : zM} {m : Nat} (h : zC M) (hm : zMo m) : zln M (m + 2) = some (nI 7) := by
  rcases hm with rfl | rfl | rfl
  · exact ln_25 h
  · exact ln_30 h
  · exact ln_35 h
theorem mo_l3 {M : zM} {m i : Nat} (h : zC M) (hm : zMo m) (hi : i < 14) : zlI 100 M (m + 3) (nI i) = some (zI M (m + 3) i) := by
  rcases hm with rfl | rfl | rfl
  · exact lI_26 h hi
  · exact lI_31 h hi
  · exact lI_36 h hi
theorem mo_t3 {M : zM} {m i : Nat} (h : zC M) (hm : zMo m) (hi : i < 14) (v : Int32) : ztI M (m + 3) (nI i) v = some (zsI M (m + 3) i v) := by
  rcases hm with rfl | rfl | rfl
  · exact tI_26 h hi v
  · exact tI_31 h hi v
  · exact tI_36 h hi v
theorem mo_n3 {M : zM} {m : Nat} (h : zC M) (hm : zMo m) : zln M (m + 3) = some (nI 14) := by
  rcases hm with rfl | rfl | rfl
  · exact ln_26 h
  · exact ln_31 h
  · exact ln_36 h
theorem mo_l4 {M : zM} {m i : Nat} (h : zC M) (hm : zMo m) (hi : i < 128) : zlI 100 M (m + 4) (nI i) = some (zI M (m + 4) i) := by
  rcases hm with rfl | rfl | rfl
  · exact lI_27 h hi
  · exact lI_32 h hi
  · exact lI_37 h hi
theorem mo_t4 {M : zM} {m i : Nat} (h : zC M) (hm : zMo m) (hi : i < 128) (v : Int32) : ztI M (m + 4) (nI i) v = some (zsI M (m + 4) i v) := by
  rcases hm with rfl | rfl | rfl
  · exact tI_27 h hi v
  · exact tI_32 h hi v
  · exact tI_37 h hi v
theorem mo_n4 {M : zM} {m : Nat} (h : zC M) (hm : zMo m) : zln M (m + 4) = some (nI 128) := by
  rcases hm with rfl | rfl | rfl
  · exact ln_27 h
  · exact ln_32 h
  · exact ln_37 h
