/-! ===== 90: the reference: the search for models ===== -/
/-- what is asked of each model -/
abbrev Qst : Type := Nat × Nat × Nat × List Nat
/-- how many, how many count, the one that is told, whether it is done -/
abbrev Gst : Type := Int32 × Int32 × List Nat × Bool
noncomputable def ckB (qq : Qst) (w : List Nat) : Bool := if qq.1 = 1 then besB w qq.2.1 qq.2.2.1 else if qq.1 = 2 then anyC w qq.2.1 else if qq.1 = 3 then ltL w qq.2.2.2 else false
def QH (n : Nat) (qq : Qst) (M : zM) : Prop := zI M 46 39 = nI qq.1 ∧ qq.1 < 5 ∧ (qq.1 = 1 → zI M 46 40 = nI qq.2.1 ∧ zI M 46 41 = nI qq.2.2.1 ∧ qq.2.1 < 7 ∧ qq.2.2.1 < 7) ∧ (qq.1 = 2 → zI M 46 40 = nI qq.2.1 ∧ qq.2.1 < 128) ∧
  (qq.1 = 3 → qq.2.2.2.length = 2 * n ∧ (∀ z ∈ qq.2.2.2, z < 2 ^ 31) ∧ ∀ i, i < qq.2.2.2.length → zI M 68 i = nI (qq.2.2.2.getD i 0))
def SMh (st : Gst) (M : zM) : Prop := zI M 46 36 = st.1 ∧ zI M 46 38 = st.2.1 ∧ (∀ i, i < st.2.2.1.length → zI M 67 i = nI (st.2.2.1.getD i 0)) ∧ zI M 46 42 = bI st.2.2.2
noncomputable def stp1 (qq : Qst) (wv : Int32) (st : Gst) (w : List Nat) : Gst := if st.2.2.2 then st else (st.1 + 1, st.2.1 + bI (ckB qq w), if st.1 = wv then w else st.2.2.1, qq.1 == 4 || decide (st.1 = wv))
abbrev atL : Nat → Nat → Prop := fun a k => a = 67 ∨ (a = 46 ∧ (k = 36 ∨ k = 38 ∨ k = 42 ∨ k = 43 ∨ k = 44))
abbrev atW : Nat → Nat → Prop := fun a k => 64 ≤ a ∧ a ≤ 67 ∨ (a = 46 ∧ (k = 36 ∨ k = 38 ∨ k = 42 ∨ k = 43 ∨ k = 44))
theorem QH_z {n : Nat} {qq : Qst} {M M' : zM} (h : QH n qq M) (hf : Fz atW M M') : QH n qq M' := by
  obtain ⟨h1, h2, h3, h4, h5⟩ := h
  exact ⟨(hf.2 _ _ (by omega)).trans h1, h2, fun q => ⟨(hf.2 _ _ (by omega)).trans (h3 q).1, (hf.2 _ _ (by omega)).trans (h3 q).2.1, (h3 q).2.2⟩, fun q => ⟨(hf.2 _ _ (by omega)).trans (h4 q).1, (h4 q).2⟩, fun q => ⟨(h5 q).1, (h5 q).2.1, fun i hi => (hf.2 _ _ (by omega)).trans ((h5 q).2.2 i hi)⟩⟩
theorem Fz_W {M M' : zM} (h : Fz atL M M') : Fz atW M M' := Fz_mono h fun a k q => by omega
theorem NrW {n L : Nat} {M M' : zM} (h : NrH n L M) (hf : Fz atW M M') : NrH n L M' := NrH_z h hf (by omega) (fun k => by omega)
theorem add1_inj {x y : Int32} : (x + 1 = y + 1) = (x = y) := propext ⟨fun h => by
  have := congrArg (fun z => z - 1) h
  simpa [Int32.add_sub_cancel] using this, fun h => by rw [h]⟩
theorem y_toldLoop {n L : Nat} {w : List Nat} {M : zM} (K : zM → Option zM) (hC : zC M) (hN : NrH n L M) (hn : n < 8) (hA : AN M 64 w) (hlen : w.length = 2 * n) : ∃ M', Fz (fun a _ => a = 67) M M' ∧ (∀ i, i < w.length → zI M' 67 i = nI (w.getD i 0)) ∧ fp_X11_isModel_L36 K 46 FU 0 M = K M' := by
  rw [n_0]
  refine up (P := fun k f => ∀ M3, Fz (fun a _ => a = 67) M M3 → (∀ j, j < k → zI M3 67 j = nI (w.getD j 0)) → ∃ M', Fz (fun a _ => a = 67) M M' ∧ (∀ i, i < w.length → zI M' 67 i = nI (w.getD i 0)) ∧ fp_X11_isModel_L36 K 46 f (nI k) M3 = K M') (a := 0) (n := w.length) ?_ ?_ FU (by omega) (FU_gt (by omega)) M Fz_refl (fun j hj => absurd hj (Nat.not_lt_zero _))
  · intro f M3 f1 f2
    have hC3 := Fz_C f1 hC
    have hN3 : NrH n L M3 := NrH_z hN f1 (by omega) (fun k => by omega)
    exact ⟨M3, f1, f2, by rw [fp_X11_isModel_L36, y_length hC3 hN3, Option.bind_some, hlen, stp]⟩
  · intro k f _ hk ih M3 f1 f2
    have hC3 := Fz_C f1 hC
    have hN3 : NrH n L M3 := NrH_z hN f1 (by omega) (fun k => by omega)
    have hg : zI M3 64 k = nI (w.getD k 0) := (f1.2 64 k (by omega)).trans (hA.2.2.2.2 k hk)
    rw [fp_X11_isModel_L36, y_length hC3 hN3, Option.bind_some, ← hlen, go hk (by omega), gR_46_34 hC3, Option.bind_some, gR_46_31 hC3, Option.bind_some, lI_64 hC3 (show k < 14 by omega), Option.bind_some, hg, tI_67 hC3 (show k < 14 by omega), Option.bind_some, inc]
    refine ih _ (Fz_trans f1 (Fz_sI rfl)) fun j hj => ?_
    by_cases hjk : j = k
    · rw [hjk, zI_same]
    · rw [zI_other _ _ (Or.inr hjk)]; exact f2 j (by omega)
theorem Vw_0 (L : Nat) : Vw 0 L [] := ⟨⟨rfl, fun p hp => absurd hp (Nat.not_lt_zero _)⟩, fun a ha => absurd ha (Nat.not_lt_zero _), rfl⟩
theorem lst_nil : lstB [] = true := by decide
theorem y_isModel {n L : Nat} {qq : Qst} {wv : Int32} {st : Gst} {w : List Nat} {M : zM} (hC : zC M) (hN : NrH n L M) (hn : n < 8) (hV : Vw n L w) (hw : ∀ i, i < w.length → zI M 64 i = nI (w.getD i 0)) (hq : QH n qq M) (hwv : zI M 46 37 = wv) (hs : SMh st M) (hd : st.2.2.2 = false) :
    ∃ M', fp_X11_isModel 46 M = some M' ∧ Fz atL M M' ∧ SMh (if (qq.1 == 4 || lstB w) = true then stp1 qq wv st w else st) M' := by
  have hlen := hV.1.1
  have hA := AN_of hC (Or.inl rfl) (by omega) hw
  have h7 : ∀ z ∈ w, z < 7 := fun z hz => by have := WD_lt hV.1 z hz; omega
  have q5 := hq.2.1
  have hs0 := hs
  obtain ⟨s1, s2, s3, s4⟩ := hs
  unfold fp_X11_isModel
  rw [ts_46 hC, gI_46 hC, Option.bind_some, hq.1, zjn_eq]
  -- the counting
  have count : (qq.1 == 4 || lstB w) = true → ∃ M', ((zgI 9 M 46 36).bind fun (y2 : Int32) =>
        (zgI 9 M 46 37).bind fun (y3 : Int32) =>
        zjn (fun (M4 : zM) =>
            (zgI 9 M4 46 39).bind fun (y5 : Int32) =>
            zjn (fun (s6 : Int32) (M7 : zM) =>
                (zgI 9 M7 46 38).bind fun (y8 : Int32) =>
                zjn (fun (s9 : Int32) (s10 : Int32) (s11 : Nat) =>
                    (zpI 9 M7 s11 38 (s10 + s9)).bind fun (M12 : zM) =>
                    (zgI 9 M12 46 36).bind fun (y13 : Int32) =>
                    (zpI 9 M12 46 36 (y13 + 1)).bind fun (M14 : zM) =>
                    (zgI 9 M14 46 39).bind fun (y15 : Int32) =>
                    if y15 = 4 then (
                      (zpI 9 M14 46 42 1).bind fun (M16 : zM) =>
                      some M16)
                    else (
                      (zgI 9 M14 46 36).bind fun (y17 : Int32) =>
                      (zgI 9 M14 46 37).bind fun (y18 : Int32) =>
                      if y17 ≠ (y18 + 1) then (
                        some M14)
                      else (
                        (zpI 9 M14 46 42 1).bind fun (M19 : zM) =>
                        some M19)))
                  (fun j136 =>
                    if s6 = 0 then (
                      j136 0 y8 46)
                    else (
                      j136 1 y8 46)))
              (fun j121 =>
                zjn (fun (M20 : zM) =>
                    j121 1 M20)
                  (fun j116 =>
                    zjn (
                        (zgI 9 M4 46 39).bind fun (y21 : Int32) =>
                        zjn (fun (M22 : zM) =>
                            (zgI 9 M22 46 39).bind fun (y23 : Int32) =>
                            zjn (
                                j121 0 M22)
                              (fun j120 =>
                                if y23 ≠ 3 then (
                                  j120)
                                else (
                                  (fp_X11_isLessThanAsked 46 M22).bind fun (y24 : Int32) =>
                                  if y24 = 0 then (
                                    j120)
                                  else (
                                    j116 M22))))
                          (fun j101 =>
                            if y21 ≠ 2 then (
                              j101 M4)
                            else (
                              (zgR 9 M4 46 31).bind fun (y25 : Nat) =>
                              (zgI 9 M4 46 40).bind fun (y26 : Int32) =>
                              (fp_X11_gaps 46 y25 y26 (-1) M4).bind fun p29 => zpp p29 fun (y27 : Int32) (M28 : zM) =>
                              if y27 > 0 then (
                                j116 M28)
                              else (
                                j101 M28))))
                      (fun j77 =>
                        if y5 ≠ 1 then (
                          j77)
                        else (
                          (fp_X11_areBeside 46 M4).bind fun (y30 : Int32) =>
                          if y30 ≠ 0 then (
                            j116 M4)
                          else (
                            j77))))))
          (fun j62 =>
            if y2 ≠ y3 then (
              j62 M)
            else (
              fp_X11_isModel_L36
                (fun M36 =>
                  j62 M36) 46 FU 0 M))) = some M' ∧ Fz atL M M' ∧ SMh (stp1 qq wv st w) M' := by
    intro _
    rw [gI_46 hC, Option.bind_some, gI_46 hC, Option.bind_some, s1, hwv, zjn_eq]
    obtain ⟨K, hK⟩ : ∃ K : zM → Option zM, K = fun M4 =>
            (zgI 9 M4 46 39).bind fun (y5 : Int32) =>
            zjn (fun (s6 : Int32) (M7 : zM) =>
                (zgI 9 M7 46 38).bind fun (y8 : Int32) =>
                zjn (fun (s9 : Int32) (s10 : Int32) (s11 : Nat) =>
                    (zpI 9 M7 s11 38 (s10 + s9)).bind fun (M12 : zM) =>
                    (zgI 9 M12 46 36).bind fun (y13 : Int32) =>
                    (zpI 9 M12 46 36 (y13 + 1)).bind fun (M14 : zM) =>
                    (zgI 9 M14 46 39).bind fun (y15 : Int32) =>
                    if y15 = 4 then (
                      (zpI 9 M14 46 42 1).bind fun (M16 : zM) =>
                      some M16)
                    else (
                      (zgI 9 M14 46 36).bind fun (y17 : Int32) =>
                      (zgI 9 M14 46 37).bind fun (y18 : Int32) =>
                      if y17 ≠ (y18 + 1) then (
                        some M14)
                      else (
                        (zpI 9 M14 46 42 1).bind fun (M19 : zM) =>
                        some M19)))
                  (fun j136 =>
                    if s6 = 0 then (
                      j136 0 y8 46)
                    else (
                      j136 1 y8 46)))
              (fun j121 =>
                zjn (fun (M20 : zM) =>
                    j121 1 M20)
                  (fun j116 =>
                    zjn (
                        (zgI 9 M4 46 39).bind fun (y21 : Int32) =>
                        zjn (fun (M22 : zM) =>
                            (zgI 9 M22 46 39).bind fun (y23 : Int32) =>
                            zjn (
                                j121 0 M22)
                              (fun j120 =>
                                if y23 ≠ 3 then (
                                  j120)
                                else (
                                  (fp_X11_isLessThanAsked 46 M22).bind fun (y24 : Int32) =>
                                  if y24 = 0 then (
                                    j120)
                                  else (
                                    j116 M22))))
                          (fun j101 =>
                            if y21 ≠ 2 then (
                              j101 M4)
                            else (
                              (zgR 9 M4 46 31).bind fun (y25 : Nat) =>
                              (zgI 9 M4 46 40).bind fun (y26 : Int32) =>
                              (fp_X11_gaps 46 y25 y26 (-1) M4).bind fun p29 => zpp p29 fun (y27 : Int32) (M28 : zM) =>
                              if y27 > 0 then (
                                j116 M28)
                              else (
                                j101 M28))))
                      (fun j77 =>
                        if y5 ≠ 1 then (
                          j77)
                        else (
                          (fp_X11_areBeside 46 M4).bind fun (y30 : Int32) =>
                          if y30 ≠ 0 then (
                            j116 M4)
                          else (
                            j77))))) := ⟨_, rfl⟩
    rw [← hK]
    have main : ∀ M4, Fz atL M M4 → zI M4 46 36 = st.1 → zI M4 46 38 = st.2.1 → zI M4 46 42 = bI false → (∀ i, i < (if st.1 = wv then w else st.2.2.1).length → zI M4 67 i = nI ((if st.1 = wv then w else st.2.2.1).getD i 0)) → ∃ M', K M4 = some M' ∧ Fz atL M M' ∧ SMh (stp1 qq wv st w) M' := by
      intro M4 f4 e36 e38 e42 e67
      have hC4 := Fz_C f4 hC
      have hN4 := NrW hN (Fz_W f4)
      have hq4 := QH_z hq (Fz_W f4)
      have hA4 : AN M4 64 w := AN_of hC4 (Or.inl rfl) (by omega) fun i hi => (f4.2 64 i (by omega)).trans (hw i hi)
      -- the end
      have fin : ∀ b M7, Fz atG M4 M7 → ckB qq w = b → ∃ M', ((zgI 9 M7 46 38).bind fun (y8 : Int32) =>
                zjn (fun (s9 : Int32) (s10 : Int32) (s11 : Nat) =>
                    (zpI 9 M7 s11 38 (s10 + s9)).bind fun (M12 : zM) =>
                    (zgI 9 M12 46 36).bind fun (y13 : Int32) =>
                    (zpI 9 M12 46 36 (y13 + 1)).bind fun (M14 : zM) =>
                    (zgI 9 M14 46 39).bind fun (y15 : Int32) =>
                    if y15 = 4 then (
                      (zpI 9 M14 46 42 1).bind fun (M16 : zM) =>
                      some M16)
                    else (
                      (zgI 9 M14 46 36).bind fun (y17 : Int32) =>
                      (zgI 9 M14 46 37).bind fun (y18 : Int32) =>
                      if y17 ≠ (y18 + 1) then (
                        some M14)
                      else (
                        (zpI 9 M14 46 42 1).bind fun (M19 : zM) =>
                        some M19)))
                  (fun j136 =>
                    if bI b = 0 then (
                      j136 0 y8 46)
                    else (
                      j136 1 y8 46))) = some M' ∧ Fz atL M M' ∧ SMh (stp1 qq wv st w) M' := by
        intro b M7 f7 hb
        have hC7 := Fz_C f7 hC4
        have hC12 : ∀ v, zC (zsI M7 46 38 v) := fun v => hC7
        have hC14 : ∀ v u, zC (zsI (zsI M7 46 38 v) 46 36 u) := fun v u => hC7
        rw [gI_46 hC7, Option.bind_some, f7.2 46 38 (by omega), e38, zjn_eq]
        have e1 : (if bI b = 0 then (fun (s9 : Int32) (s10 : Int32) (s11 : Nat) =>
                    (zpI 9 M7 s11 38 (s10 + s9)).bind fun (M12 : zM) =>
                    (zgI 9 M12 46 36).bind fun (y13 : Int32) =>
                    (zpI 9 M12 46 36 (y13 + 1)).bind fun (M14 : zM) =>
                    (zgI 9 M14 46 39).bind fun (y15 : Int32) =>
                    if y15 = 4 then (
                      (zpI 9 M14 46 42 1).bind fun (M16 : zM) =>
                      some M16)
                    else (
                      (zgI 9 M14 46 36).bind fun (y17 : Int32) =>
                      (zgI 9 M14 46 37).bind fun (y18 : Int32) =>
                      if y17 ≠ (y18 + 1) then (
                        some M14)
                      else (
                        (zpI 9 M14 46 42 1).bind fun (M19 : zM) =>
                        some M19))) 0 st.2.1 46 else (fun (s9 : Int32) (s10 : Int32) (s11 : Nat) =>
                    (zpI 9 M7 s11 38 (s10 + s9)).bind fun (M12 : zM) =>
                    (zgI 9 M12 46 36).bind fun (y13 : Int32) =>
                    (zpI 9 M12 46 36 (y13 + 1)).bind fun (M14 : zM) =>
                    (zgI 9 M14 46 39).bind fun (y15 : Int32) =>
                    if y15 = 4 then (
                      (zpI 9 M14 46 42 1).bind fun (M16 : zM) =>
                      some M16)
                    else (
                      (zgI 9 M14 46 36).bind fun (y17 : Int32) =>
                      (zgI 9 M14 46 37).bind fun (y18 : Int32) =>
                      if y17 ≠ (y18 + 1) then (
                        some M14)
                      else (
                        (zpI 9 M14 46 42 1).bind fun (M19 : zM) =>
                        some M19))) 1 st.2.1 46) = (zpI 9 M7 46 38 (st.2.1 + bI b)).bind fun (M12 : zM) =>
                    (zgI 9 M12 46 36).bind fun (y13 : Int32) =>
                    (zpI 9 M12 46 36 (y13 + 1)).bind fun (M14 : zM) =>
                    (zgI 9 M14 46 39).bind fun (y15 : Int32) =>
                    if y15 = 4 then (
                      (zpI 9 M14 46 42 1).bind fun (M16 : zM) =>
                      some M16)
                    else (
                      (zgI 9 M14 46 36).bind fun (y17 : Int32) =>
                      (zgI 9 M14 46 37).bind fun (y18 : Int32) =>
                      if y17 ≠ (y18 + 1) then (
                        some M14)
                      else (
                        (zpI 9 M14 46 42 1).bind fun (M19 : zM) =>
                        some M19)) := by
          cases b with
          | false => rw [b_ff, if_pos rfl]
          | true => rw [b_tt, if_neg (by decide)]
        refine Eq.mp (congrArg (fun o => ∃ M', o = some M' ∧ Fz atL M M' ∧ SMh (stp1 qq wv st w) M') e1.symm) ?_
        have g39 : zI M7 46 39 = nI qq.1 := (f7.2 46 39 (by omega)).trans hq4.1
        have g37 : zI M7 46 37 = wv := (f7.2 46 37 (by omega)).trans ((f4.2 46 37 (by omega)).trans hwv)
        have g36 : zI M7 46 36 = st.1 := (f7.2 46 36 (by omega)).trans e36
        have g42 : zI M7 46 42 = bI false := (f7.2 46 42 (by omega)).trans e42
        have g67 : ∀ i, zI M7 67 i = zI M4 67 i := fun i => f7.2 67 i (by omega)
        rw [pI_46 hC7, Option.bind_some, gI_46 (hC12 _), Option.bind_some, zI_other _ _ (Or.inr (by decide)), g36, pI_46 (hC12 _), Option.bind_some, gI_46 (hC14 _ _), Option.bind_some, zI_other _ _ (Or.inr (by decide)), zI_other _ _ (Or.inr (by decide)), g39]
        have f14 : Fz atL M (zsI (zsI M7 46 38 (st.2.1 + bI b)) 46 36 (st.1 + 1)) := Fz_trans f4 (Fz_trans (Fz_mono f7 fun a k q => by omega) (Fz_trans (Fz_sI (by omega)) (Fz_sI (by omega))))
        have sm : ∀ d M', (M' = zsI (zsI M7 46 38 (st.2.1 + bI b)) 46 36 (st.1 + 1) ∧ d = false ∨ M' = zsI (zsI (zsI M7 46 38 (st.2.1 + bI b)) 46 36 (st.1 + 1)) 46 42 1 ∧ d = true) → (qq.1 == 4 || decide (st.1 = wv)) = d → Fz atL M M' ∧ SMh (stp1 qq wv st w) M' := by
          intro d M' hM' hd'
          have es : stp1 qq wv st w = (st.1 + 1, st.2.1 + bI b, if st.1 = wv then w else st.2.2.1, d) := by
            unfold stp1
            rw [hd, if_neg Bool.false_ne_true, hb, hd']
          rw [es]
          rcases hM' with ⟨rfl, rfl⟩ | ⟨rfl, rfl⟩
          · refine ⟨f14, zI_same _ _ _ _, ?_, fun i hi => ?_, ?_⟩
            · rw [zI_other _ _ (Or.inr (by decide)), zI_same]
            · rw [zI_other _ _ (Or.inl (by decide)), zI_other _ _ (Or.inl (by decide)), g67]; exact e67 i hi
            · rw [zI_other _ _ (Or.inr (by decide)), zI_other _ _ (Or.inr (by decide))]; exact g42
          · refine ⟨Fz_trans f14 (Fz_sI (by omega)), ?_, ?_, fun i hi => ?_, zI_same _ _ _ _⟩
            · rw [zI_other _ _ (Or.inr (by decide)), zI_same]
            · rw [zI_other _ _ (Or.inr (by decide)), zI_other _ _ (Or.inr (by decide)), zI_same]
            · rw [zI_other _ _ (Or.inl (by decide)), zI_other _ _ (Or.inl (by decide)), zI_other _ _ (Or.inl (by decide)), g67]; exact e67 i hi
        by_cases h4 : qq.1 = 4
        · rw [h4, if_pos (by decide), pI_46 (hC14 _ _), Option.bind_some]
          exact ⟨_, rfl, sm true _ (Or.inr ⟨rfl, rfl⟩) (by rw [h4]; rfl)⟩
        · have h4b : (qq.1 == 4) = false := by simpa using h4
          rw [if_neg (by rw [n_4, n_eq (by omega) (by decide)]; exact h4), gI_46 (hC14 _ _), Option.bind_some, zI_same, gI_46 (hC14 _ _), Option.bind_some, zI_other _ _ (Or.inr (by decide)), zI_other _ _ (Or.inr (by decide)), g37]
          by_cases hw2 : st.1 = wv
          · rw [if_neg (by rw [hw2]; exact fun z => z rfl), pI_46 (hC14 _ _), Option.bind_some]
            exact ⟨_, rfl, sm true _ (Or.inr ⟨rfl, rfl⟩) (by rw [h4b, Bool.false_or, decide_eq_true hw2])⟩
          · rw [if_pos (by rw [ne_eq, add1_inj]; exact hw2)]
            exact ⟨_, rfl, sm false _ (Or.inl ⟨rfl, rfl⟩) (by rw [h4b, Bool.false_or, decide_eq_false hw2])⟩
      have fin0 := fun M7 (f : Fz atG M4 M7) (hb : ckB qq w = false) => fin false M7 f hb
      have fin1 := fun M7 (f : Fz atG M4 M7) (hb : ckB qq w = true) => fin true M7 f hb
      rw [b_ff] at fin0
      rw [b_tt] at fin1
      rw [hK]
      dsimp only
      rw [gI_46 hC4, Option.bind_some, hq4.1, zjn_eq, zjn_eq, zjn_eq, Option.bind_some, zjn_eq]
      have h5 : qq.1 = 0 ∨ qq.1 = 1 ∨ qq.1 = 2 ∨ qq.1 = 3 ∨ qq.1 = 4 := by omega
      rcases h5 with h | h | h | h | h
      · rw [h, if_pos (show nI 0 ≠ 1 by decide), if_pos (show nI 0 ≠ 2 by decide)]
        dsimp only
        rw [gI_46 hC4, Option.bind_some, hq4.1, h, zjn_eq, if_pos (show nI 0 ≠ 3 by decide)]
        exact fin0 M4 Fz_refl (by unfold ckB; rw [h]; rfl)
      · obtain ⟨a1, a2, a3, a4⟩ := hq4.2.2.1 h
        have hc : ckB qq w = besB w qq.2.1 qq.2.2.1 := by unfold ckB; rw [h, if_pos rfl]
        rw [h, if_neg (show ¬ nI 1 ≠ 1 by decide), if_pos (show nI 1 ≠ 2 by decide), y_areBeside hC4 hN4 hn hA4 hlen h7 a1 a2 a3 a4, Option.bind_some]
        cases hb : besB w qq.2.1 qq.2.2.1 with
        | true => rw [b_tt, if_pos (by decide)]; exact fin1 M4 Fz_refl (by rw [hc, hb])
        | false =>
          rw [b_ff, if_neg (by decide)]
          dsimp only
          rw [gI_46 hC4, Option.bind_some, hq4.1, h, zjn_eq, if_pos (show nI 1 ≠ 3 by decide)]
          exact fin0 M4 Fz_refl (by rw [hc, hb])
      · obtain ⟨a1, a2⟩ := hq4.2.2.2.1 h
        have hc : ckB qq w = anyC w qq.2.1 := by unfold ckB; rw [h, if_neg (by decide), if_pos rfl]
        obtain ⟨M28, c1, c2, c3⟩ := y_gaps (a := 64) (jv := -1) (set := qq.2.1) hC4 hN4 hn (by decide) hA4 hlen h7 a2
        have hC28 := Fz_C c2 hC4
        have hcl := cpN_len w qq.2.1 (w.length + 1)
        have hcl2 : (w.length + 1) * (w.length + 1) ≤ 15 * 15 := Nat.mul_le_mul (by omega) (by omega)
        have hcl3 : (cpl w qq.2.1).length ≤ 225 := by unfold cpl; omega
        rw [h, if_pos (show nI 2 ≠ 1 by decide), if_neg (show ¬ nI 2 ≠ 2 by decide), gR_46_31 hC4, Option.bind_some, gI_46 hC4, Option.bind_some, a1, c1, Option.bind_some]
        unfold zpp
        dsimp only
        by_cases hb : 0 < (cpl w qq.2.1).length
        · rw [if_pos (by rw [n_0, gt_iff_lt, n_lt (by decide) (by omega)]; exact hb)]
          exact fin1 M28 c2 (by rw [hc]; unfold anyC; exact decide_eq_true hb)
        · rw [if_neg (by rw [n_0, gt_iff_lt, n_lt (by decide) (by omega)]; exact hb), gI_46 hC28, Option.bind_some, c2.2 46 39 (by omega), hq4.1, h, zjn_eq, if_pos (show nI 2 ≠ 3 by decide)]
          exact fin0 M28 c2 (by rw [hc]; unfold anyC; exact decide_eq_false hb)
      · obtain ⟨a1, a2, a3⟩ := hq4.2.2.2.2 h
        have hc : ckB qq w = ltL w qq.2.2.2 := by unfold ckB; rw [h, if_neg (by decide), if_neg (by decide), if_pos rfl]
        have hB4 : AN M4 68 qq.2.2.2 := AN_of hC4 (Or.inr (Or.inr rfl)) (by omega) a3
        rw [h, if_pos (show nI 3 ≠ 1 by decide), if_pos (show nI 3 ≠ 2 by decide)]
        dsimp only
        rw [gI_46 hC4, Option.bind_some, hq4.1, h, zjn_eq, if_neg (show ¬ nI 3 ≠ 3 by decide), y_lessAsked hC4 hN4 hn hA4 hB4 hlen a1 (fun z hz => by have := h7 z hz; omega) a2, Option.bind_some]
        cases hb : ltL w qq.2.2.2 with
        | true => rw [b_tt, if_neg (by decide)]; exact fin1 M4 Fz_refl (by rw [hc, hb])
        | false => rw [b_ff, if_pos rfl]; exact fin0 M4 Fz_refl (by rw [hc, hb])
      · rw [h, if_pos (show nI 4 ≠ 1 by decide), if_pos (show nI 4 ≠ 2 by decide)]
        dsimp only
        rw [gI_46 hC4, Option.bind_some, hq4.1, h, zjn_eq, if_pos (show nI 4 ≠ 3 by decide)]
        exact fin0 M4 Fz_refl (by unfold ckB; rw [h]; rfl)
    by_cases hw2 : st.1 = wv
    · obtain ⟨M', l1, l3', l3⟩ := y_toldLoop K hC hN hn hA hlen
      rw [if_neg (by rw [hw2]; exact fun z => z rfl), l3]
      exact main M' (Fz_mono l1 fun a k q => by omega) ((l1.2 _ _ (by omega)).trans s1) ((l1.2 _ _ (by omega)).trans s2) ((l1.2 _ _ (by omega)).trans (by rw [s4, hd])) (by rw [if_pos hw2]; exact l3')
    · rw [if_pos hw2]
      exact main M Fz_refl s1 s2 (by rw [s4, hd]) (by rw [if_neg hw2]; exact s3)
  by_cases h4 : qq.1 = 4
  · have hb : (qq.1 == 4 || lstB w) = true := by rw [h4]; rfl
    rw [if_pos (by rw [h4]; decide), if_pos hb]
    exact count hb
  · have h4b : (qq.1 == 4) = false := by simpa using h4
    rw [if_neg (by rw [n_4, n_eq (by omega) (by decide)]; exact h4), gI_46 hC, Option.bind_some, hN.1]
    by_cases h0 : n = 0
    · have hw0 : w = [] := List.eq_nil_of_length_eq_zero (by omega)
      have hb : (qq.1 == 4 || lstB w) = true := by rw [hw0, lst_nil, Bool.or_true]
      rw [if_pos (by rw [h0]; decide), if_pos hb]
      exact count hb
    · rw [if_neg (by rw [n_0, n_le (by omega) (by decide)]; omega), y_isLeast hC hN hn (by omega) hA hV, Option.bind_some]
      cases hl : lstB w with
      | true =>
        have hb : (qq.1 == 4 || lstB w) = true := by rw [hl, Bool.or_true]
        rw [b_tt, if_pos (by decide), Bool.or_true, if_pos rfl]
        exact count hb
      | false =>
        rw [b_ff, if_neg (by decide), h4b, Bool.or_false, if_neg Bool.false_ne_true]
        exact ⟨M, rfl, Fz_refl, hs0⟩
