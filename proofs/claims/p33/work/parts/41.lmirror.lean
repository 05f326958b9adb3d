def f_L_cell (xs : Nat → Int32) (Ls : Nat) (a1 : Int32) (a2 : Int32) (μ : mT) : Option (Int32 × mT) :=
  (if (Int32.ofNat Ls) = 0 then
  gd (decide (¬ a2 = 0)) (some (((a1 * 37) + 5) - ((a1 * 37) + 5) / a2 * a2, μ))
  else
  gd (decide (¬ (Int32.ofNat Ls) = 0)) (gd (inb (a1 - a1 / (Int32.ofNat Ls) * (Int32.ofNat Ls)) Ls) (gd (decide (¬ a2 = 0)) (some ((((xs (a1 - a1 / (Int32.ofNat Ls) * (Int32.ofNat Ls)).toNatClampNeg) >>> ((a1 - a1 / 7 * 7) &&& 31)) &&& 4194303) - (((xs (a1 - a1 / (Int32.ofNat Ls) * (Int32.ofNat Ls)).toNatClampNeg) >>> ((a1 - a1 / 7 * 7) &&& 31)) &&& 4194303) / a2 * a2, μ)))))
def f_L_row_L22 (ka : Nat) (a1 : Int32) (v2 : Int32) (K6 : mT → Option (Int32 × mT)) : Nat → Int32 → mT → Option (Int32 × mT)
  | 0, _, _ => none
  | n + 1, v4, μ5 =>
      (if v2 ≤ v4 then
      K6 μ5
      else
      bm (f_X7_at a1 v4 μ5) μ5 (fun v12 μ13 => gd (inb v4 32) (lt (upM μ13 ka 0 v4.toNatClampNeg v12) (fun μ14 => lt (v4 + 1 : Int32) (fun v15 => f_L_row_L22 ka a1 v2 K6 n v15 μ14)))))
def f_L_row (ka : Nat) (a1 : Int32) (μ : mT) : Option (Int32 × mT) :=
  lt (fun (v2 : Int32) (μ3 : mT) => 
  lt (fun (μ7 : mT) =>
  bm (f_X7_at a1 v2 μ7) μ7 (fun v8 μ9 => (if v8 = ((-6)) then
  bm (f_X7_at a1 ((-1)) μ9) μ9 (fun v10 μ11 => (if v10 = ((-6)) then
  some (v2, μ11)
  else
  some ((-1), μ11)))
  else
  some ((-1), μ9)))) (fun K6 =>
  f_L_row_L22 ka a1 v2 K6 fu 0 μ3)) (fun J1 =>
  (if (0 : Int32) ≤ a1 then
  bm (f_X7_ofTrack a1 1 μ) μ (fun v16 μ17 => J1 v16 μ17)
  else
  bm (f_X7_count 3 μ) μ (fun v18 μ19 => J1 v18 μ19)))
def f_L_lengths_L6 (ka : Nat) (a3 : Int32) : Nat → Int32 → Int32 → mT → Option (Int32 × mT)
  | 0, _, _, _ => none
  | n + 1, v1, v2, μ3 =>
      (if a3 ≤ v2 then
      some (v1, μ3)
      else
      gd (inb v2 32) (bm (f_X7_ofWagon (μ3 ka 0 v2.toNatClampNeg) 0 μ3) μ3 (fun v4 μ5 => lt (v1 + v4 : Int32) (fun v6 => lt (v2 + 1 : Int32) (fun v7 => f_L_lengths_L6 ka a3 n v6 v7 μ5)))))
def f_L_lengths (ka : Nat) (a2 : Int32) (a3 : Int32) (μ : mT) : Option (Int32 × mT) :=
  f_L_lengths_L6 ka a3 fu 0 a2 μ
def f_L_agree_L293 (v21 : Int32) (K26 : Int32 → mT → Option (Int32 × mT)) : Nat → Int32 → Int32 → mT → Option (Int32 × mT)
  | 0, _, _, _ => none
  | n + 1, v23, v24, μ25 =>
      bm (f_X7_count 2 μ25) μ25 (fun v31 μ32 => (if v31 ≤ v24 then
      K26 v23 μ32
      else
      bm (f_X7_ofWagon v24 4 μ32) μ32 (fun v33 μ34 => lt (fun (v36 : Int32) (μ37 : mT) => 
      lt (fun (v39 : Int32) (μ40 : mT) => 
      lt (v23 + v39 : Int32) (fun v41 => lt (fun (v43 : Int32) (μ44 : mT) => 
      (if v36 = v43 then
      some (0, μ44)
      else
      lt (fun (μ46 : mT) => 
      lt (v24 + 1 : Int32) (fun v47 => f_L_agree_L293 v21 K26 n v41 v47 μ46)) (fun J45 =>
      (if v36 = 0 then
      J45 μ44
      else
      bm (f_X7_ofWagon v24 2 μ44) μ44 (fun v48 μ49 => (if v48 = ((-6)) then
      bm (f_X7_ofWagon v24 4 μ49) μ49 (fun v50 μ51 => bm (f_X7_count 0 μ51) μ51 (fun v52 μ53 => (if v50 ≤ v52 then
      J45 μ53
      else
      some (0, μ53))))
      else
      some (0, μ49))))))) (fun J42 =>
      (if ((v21 >>> (v24 &&& 31)) &&& 1) = 1 then
      J42 1 μ40
      else
      J42 0 μ40)))) (fun J38 =>
      (if v36 = 0 then
      J38 0 μ37
      else
      J38 1 μ37))) (fun J35 =>
      (if v33 < 0 then
      J35 0 μ34
      else
      J35 1 μ34)))))
def f_L_agree_L190 (v18 : Int32) (v56 : Int32) (K69 : Int32 → mT → Option (Int32 × mT)) : Nat → Int32 → Int32 → mT → Option (Int32 × mT)
  | 0, _, _, _ => none
  | n + 1, v66, v67, μ68 =>
      (if v56 ≤ v67 then
      K69 v66 μ68
      else
      gd (inb v67 32) ((if ((v66 >>> ((μ68 60 0 v67.toNatClampNeg) &&& 31)) &&& 1) = 1 then
      some (0, μ68)
      else
      gd (inb v67 32) (bm (f_X7_ofWagon (μ68 60 0 v67.toNatClampNeg) 1 μ68) μ68 (fun v73 μ74 => (if v73 = v18 then
      gd (inb v67 32) (bm (f_X7_ofWagon (μ74 60 0 v67.toNatClampNeg) 2 μ74) μ74 (fun v75 μ76 => (if v75 = v67 then
      gd (inb v67 32) (bm (f_X7_ofWagon (μ76 60 0 v67.toNatClampNeg) 3 μ76) μ76 (fun v77 μ78 => (if v77 = 0 then
      gd (inb v67 32) (bm (f_X7_ofWagon (μ78 60 0 v67.toNatClampNeg) 7 μ78) μ78 (fun v79 μ80 => (if v79 = v67 then
      gd (inb v67 32) (lt (v66 ||| (1 <<< ((μ80 60 0 v67.toNatClampNeg) &&& 31)) : Int32) (fun v81 => lt (v67 + 1 : Int32) (fun v82 => f_L_agree_L190 v18 v56 K69 n v81 v82 μ80)))
      else
      some (0, μ80))))
      else
      some (0, μ78))))
      else
      some (0, μ76))))
      else
      some (0, μ74)))))))
def f_L_agree_L126 (K20 : Int32 → mT → Option (Int32 × mT)) : Nat → Int32 → Int32 → mT → Option (Int32 × mT)
  | 0, _, _, _ => none
  | n + 1, v17, v18, μ19 =>
      bm (f_X7_count 1 μ19) μ19 (fun v54 μ55 => (if v54 ≤ v18 then
      K20 v17 μ55
      else
      bd (f_L_row 60 v18 μ55) (fun v56 μ57 => (if v56 < 0 then
      some (0, μ57)
      else
      bd (f_L_lengths 60 0 v56 μ57) (fun v58 μ59 => bm (f_X7_ofTrack v18 2 μ59) μ59 (fun v60 μ61 => (if v58 = v60 then
      bm (f_X7_ofTrack v18 2 μ61) μ61 (fun v62 μ63 => bm (f_X7_ofTrack v18 0 μ63) μ63 (fun v64 μ65 => (if v62 ≤ v64 then
      lt (fun (v70 : Int32) (μ71 : mT) =>
      lt (v18 + 1 : Int32) (fun v72 => f_L_agree_L126 K20 n v70 v72 μ71)) (fun K69 =>
      f_L_agree_L190 v18 v56 K69 fu v17 0 μ65)
      else
      some (0, μ65))))
      else
      some (0, μ61))))))))
def f_L_agree_L44 (v3 : Int32) (K14 : Int32 → mT → Option (Int32 × mT)) : Nat → Int32 → Int32 → mT → Option (Int32 × mT)
  | 0, _, _, _ => none
  | n + 1, v11, v12, μ13 =>
      (if v3 ≤ v12 then
      K14 v11 μ13
      else
      gd (inb v12 32) (lt (v11 ||| (1 <<< ((μ13 60 0 v12.toNatClampNeg) &&& 31)) : Int32) (fun v83 => gd (inb v12 32) (bm (f_X7_ofWagon (μ13 60 0 v12.toNatClampNeg) 1 μ13) μ13 (fun v84 μ85 => (if v84 = ((-6)) then
      gd (inb v12 32) (bm (f_X7_ofWagon (μ85 60 0 v12.toNatClampNeg) 2 μ85) μ85 (fun v86 μ87 => (if v86 = v12 then
      gd (inb v12 32) (bm (f_X7_ofWagon (μ87 60 0 v12.toNatClampNeg) 3 μ87) μ87 (fun v88 μ89 => (if v88 = 1 then
      gd (inb v12 32) (bm (f_X7_ofWagon (μ89 60 0 v12.toNatClampNeg) 7 μ89) μ89 (fun v90 μ91 => (if v90 = ((-6)) then
      lt (v12 + 1 : Int32) (fun v92 => f_L_agree_L44 v3 K14 n v83 v92 μ91)
      else
      some (0, μ91))))
      else
      some (0, μ89))))
      else
      some (0, μ87))))
      else
      some (0, μ85)))))))
def f_L_agree  (μ : mT) : Option (Int32 × mT) :=
  lt (upR μ 60 0 (fun _ => 0)) (fun μ1 => bd (f_L_row 60 ((-6)) μ1) (fun v3 μ4 => bm (f_X7_count 3 μ4) μ4 (fun v5 μ6 => (if v3 = v5 then
  bd (f_L_lengths 60 0 v3 μ6) (fun v7 μ8 => bm (f_X7_count 4 μ8) μ8 (fun v9 μ10 => (if v7 = v9 then
  lt (fun (v15 : Int32) (μ16 : mT) =>
  lt (fun (v21 : Int32) (μ22 : mT) =>
  lt (fun (v27 : Int32) (μ28 : mT) =>
  bm (f_X7_count 5 μ28) μ28 (fun v29 μ30 => (if v27 = v29 then
  some (1, μ30)
  else
  some (0, μ30)))) (fun K26 =>
  f_L_agree_L293 v21 K26 fu 0 0 μ22)) (fun K20 =>
  f_L_agree_L126 K20 fu v15 0 μ16)) (fun K14 =>
  f_L_agree_L44 v3 K14 fu 0 0 μ10)
  else
  some (0, μ10))))
  else
  some (0, μ6)))))
def f_L_isTimed (a1 : Int32) (a2 : Int32) (a3 : Int32) (a4 : Int32) (a5 : Int32) (a6 : Int32) (a7 : Int32) (μ : mT) : Option (Int32 × mT) :=
  bm (f_X7_count 0 μ) μ (fun v1 μ2 => (if v1 = (a2 + a3) then
  bm (f_X7_count 9 μ2) μ2 (fun v3 μ4 => (if v3 = (a5 + a4) then
  bm (f_X7_count 10 μ4) μ4 (fun v5 μ6 => (if v5 = (a6 + 1) then
  bm (f_X7_count 11 μ6) μ6 (fun v7 μ8 => (if v7 = ((a7 + a2) - a1) then
  some (1, μ8)
  else
  some (0, μ8)))
  else
  some (0, μ6)))
  else
  some (0, μ4)))
  else
  some (0, μ2)))
def f_L_isPulled_L365 (a1 : Int32) (a2 : Int32) (v9 : Int32) (v15 : Int32) (v21 : Int32) (v22 : Int32) (v24 : Int32) (v26 : Int32) (v28 : Int32) (v30 : Int32) (K51 : mT → Option (Int32 × mT)) : Nat → Int32 → mT → Option (Int32 × mT)
  | 0, _, _ => none
  | n + 1, v49, μ50 =>
      (if v9 ≤ v49 then
      K51 μ50
      else
      bm (f_X7_at a1 (v49 - a2) μ50) μ50 (fun v55 μ56 => gd (inb v49 32) ((if v55 = (μ56 61 0 v49.toNatClampNeg) then
      lt (v49 + 1 : Int32) (fun v57 => f_L_isPulled_L365 a1 a2 v9 v15 v21 v22 v24 v26 v28 v30 K51 n v57 μ56)
      else
      some (0, μ56)))))
def f_L_isPulled_L312 (a1 : Int32) (a2 : Int32) (v7 : Int32) (v9 : Int32) (v15 : Int32) (v21 : Int32) (v22 : Int32) (v24 : Int32) (v26 : Int32) (v28 : Int32) (v30 : Int32) (K47 : mT → Option (Int32 × mT)) : Nat → Int32 → mT → Option (Int32 × mT)
  | 0, _, _ => none
  | n + 1, v45, μ46 =>
      (if (v7 + a2) ≤ v45 then
      K47 μ46
      else
      bm (f_X7_at ((-6)) v45 μ46) μ46 (fun v58 μ59 => lt (fun (v61 : Int32) (μ62 : mT) => 
      (if v58 = v61 then
      lt (v45 + 1 : Int32) (fun v63 => f_L_isPulled_L312 a1 a2 v7 v9 v15 v21 v22 v24 v26 v28 v30 K47 n v63 μ62)
      else
      some (0, μ62))) (fun J60 =>
      (if v7 ≤ v45 then
      gd (inb (v45 - v7) 32) (J60 (μ59 61 0 (v45 - v7).toNatClampNeg) μ59)
      else
      gd (inb v45 32) (J60 (μ59 60 0 v45.toNatClampNeg) μ59)))))
def f_L_isPulled (a1 : Int32) (a2 : Int32) (μ : mT) : Option (Int32 × mT) :=
  bm (f_X7_count 1 μ) μ (fun v1 μ2 => (if a1 < v1 then
  lt (upR μ2 60 0 (fun _ => 0)) (fun μ3 => lt (upR μ3 61 0 (fun _ => 0)) (fun μ5 => bd (f_L_row 60 ((-6)) μ5) (fun v7 μ8 => bd (f_L_row 61 a1 μ8) (fun v9 μ10 => lt (fun (v12 : Int32) (μ13 : mT) => 
  lt (fun (v15 : Int32) (μ16 : mT) => 
  bm (f_X7_count 17 μ16) μ16 (fun v17 μ18 => bm (f_X7_count 18 μ18) μ18 (fun v19 μ20 => lt (v17 + (v15 * v19) : Int32) (fun v21 => bm (f_X7_count 0 μ20) μ20 (fun v22 μ23 => bm (f_X7_freeFrom v21 μ23) μ23 (fun v24 μ25 => bm (f_X7_count 9 μ25) μ25 (fun v26 μ27 => bm (f_X7_count 10 μ27) μ27 (fun v28 μ29 => bm (f_X7_count 11 μ29) μ29 (fun v30 μ31 => bm (f_X7_ofTrack a1 3 μ31) μ31 (fun v32 μ33 => lt (fun (v35 : Int32) (μ36 : mT) => 
  bm (f_X7_pull a1 a2 μ36) μ36 (fun v37 μ38 => (if v12 = 0 then
  (if v37 = ((-5)) then
  bm (f_X7_count 3 μ38) μ38 (fun v64 μ65 => (if v64 = v7 then
  bm (f_X7_ofTrack a1 1 μ65) μ65 (fun v66 μ67 => (if v66 = v9 then
  bm (f_X7_count 0 μ67) μ67 (fun v68 μ69 => (if v68 = v22 then
  some (1, μ69)
  else
  some (0, μ69)))
  else
  some (0, μ67)))
  else
  some (0, μ65)))
  else
  some (0, μ38))
  else
  (if v37 = (v7 + a2) then
  bm (f_X7_ofTrack a1 1 μ38) μ38 (fun v39 μ40 => (if v39 = (v9 - a2) then
  bm (f_X7_ofTrack a1 3 μ40) μ40 (fun v41 μ42 => (if v41 = (v32 + a2) then
  bm (f_X7_ofWagon (μ42 61 0 (0 : Int32).toNatClampNeg) 5 μ42) μ42 (fun v43 μ44 => (if v43 = (v35 + 1) then
  lt (fun (μ48 : mT) =>
  lt (fun (μ52 : mT) =>
  bd (f_L_isTimed v22 v24 v21 v15 v26 v28 v30 μ52) (fun v53 μ54 => gd (isB v53) (some (v53, μ54)))) (fun K51 =>
  f_L_isPulled_L365 a1 a2 v9 v15 v21 v22 v24 v26 v28 v30 K51 fu a2 μ48)) (fun K47 =>
  f_L_isPulled_L312 a1 a2 v7 v9 v15 v21 v22 v24 v26 v28 v30 K47 fu 0 μ44)
  else
  some (0, μ44)))
  else
  some (0, μ42)))
  else
  some (0, μ40)))
  else
  some (0, μ38))))) (fun J34 =>
  (if v9 ≤ 0 then
  J34 0 μ33
  else
  bm (f_X7_ofWagon (μ33 61 0 (0 : Int32).toNatClampNeg) 5 μ33) μ33 (fun v70 μ71 => J34 v70 μ71))))))))))))) (fun J14 =>
  (if v9 ≤ a2 then
  J14 1 μ13
  else
  J14 2 μ13))) (fun J11 =>
  lt (fun (μ73 : mT) => 
  J11 0 μ73) (fun J72 =>
  (if v9 < a2 then
  J72 μ10
  else
  bm (f_X7_count 4 μ10) μ10 (fun v74 μ75 => lt (fun (v77 : Int32) (μ78 : mT) => 
  bd (f_L_lengths 61 0 v77 μ78) (fun v79 μ80 => bm (f_X7_count 15 μ80) μ80 (fun v81 μ82 => (if v81 < (v74 + v79) then
  J72 μ82
  else
  J11 1 μ82)))) (fun J76 =>
  (if v9 ≤ a2 then
  J76 v9 μ75
  else
  J76 a2 μ75))))))))))
  else
  bm (f_X7_pull a1 a2 μ2) μ2 (fun v83 μ84 => (if v83 = ((-1)) then
  some (1, μ84)
  else
  some (0, μ84)))))
def f_L_isPushed_L367 (a2 : Int32) (v7 : Int32) (v22 : Int32) (v28 : Int32) (v29 : Int32) (v31 : Int32) (v33 : Int32) (v35 : Int32) (v37 : Int32) (K53 : mT → Option (Int32 × mT)) : Nat → Int32 → mT → Option (Int32 × mT)
  | 0, _, _ => none
  | n + 1, v51, μ52 =>
      (if (v7 - a2) ≤ v51 then
      K53 μ52
      else
      bm (f_X7_at ((-6)) v51 μ52) μ52 (fun v57 μ58 => gd (inb v51 32) ((if v57 = (μ58 60 0 v51.toNatClampNeg) then
      lt (v51 + 1 : Int32) (fun v59 => f_L_isPushed_L367 a2 v7 v22 v28 v29 v31 v33 v35 v37 K53 n v59 μ58)
      else
      some (0, μ58)))))
def f_L_isPushed_L312 (a1 : Int32) (a2 : Int32) (v7 : Int32) (v9 : Int32) (v22 : Int32) (v28 : Int32) (v29 : Int32) (v31 : Int32) (v33 : Int32) (v35 : Int32) (v37 : Int32) (K49 : mT → Option (Int32 × mT)) : Nat → Int32 → mT → Option (Int32 × mT)
  | 0, _, _ => none
  | n + 1, v47, μ48 =>
      (if (v9 + a2) ≤ v47 then
      K49 μ48
      else
      bm (f_X7_at a1 v47 μ48) μ48 (fun v60 μ61 => lt (fun (v63 : Int32) (μ64 : mT) => 
      (if v60 = v63 then
      lt (v47 + 1 : Int32) (fun v65 => f_L_isPushed_L312 a1 a2 v7 v9 v22 v28 v29 v31 v33 v35 v37 K49 n v65 μ64)
      else
      some (0, μ64))) (fun J62 =>
      (if a2 ≤ v47 then
      gd (inb (v47 - a2) 32) (J62 (μ61 61 0 (v47 - a2).toNatClampNeg) μ61)
      else
      gd (inb ((v7 - a2) + v47) 32) (J62 (μ61 60 0 ((v7 - a2) + v47).toNatClampNeg) μ61)))))
def f_L_isPushed (a1 : Int32) (a2 : Int32) (μ : mT) : Option (Int32 × mT) :=
  bm (f_X7_count 1 μ) μ (fun v1 μ2 => (if a1 < v1 then
  lt (upR μ2 60 0 (fun _ => 0)) (fun μ3 => lt (upR μ3 61 0 (fun _ => 0)) (fun μ5 => bd (f_L_row 60 ((-6)) μ5) (fun v7 μ8 => bd (f_L_row 61 a1 μ8) (fun v9 μ10 => lt (fun (v12 : Int32) (μ13 : mT) => 
  bm (f_X7_roomFor μ13) μ13 (fun v14 μ15 => lt (fun (v17 : Int32) (μ18 : mT) => 
  lt (fun (μ20 : mT) => 
  lt (fun (v22 : Int32) (μ23 : mT) => 
  bm (f_X7_count 17 μ23) μ23 (fun v24 μ25 => bm (f_X7_count 18 μ25) μ25 (fun v26 μ27 => lt (v24 + (v22 * v26) : Int32) (fun v28 => bm (f_X7_count 0 μ27) μ27 (fun v29 μ30 => bm (f_X7_freeFrom v28 μ30) μ30 (fun v31 μ32 => bm (f_X7_count 9 μ32) μ32 (fun v33 μ34 => bm (f_X7_count 10 μ34) μ34 (fun v35 μ36 => bm (f_X7_count 11 μ36) μ36 (fun v37 μ38 => bm (f_X7_ofTrack a1 4 μ38) μ38 (fun v39 μ40 => bm (f_X7_push a1 a2 μ40) μ40 (fun v41 μ42 => (if v12 = 0 then
  (if v41 = ((-5)) then
  bm (f_X7_count 3 μ42) μ42 (fun v66 μ67 => (if v66 = v7 then
  bm (f_X7_ofTrack a1 1 μ67) μ67 (fun v68 μ69 => (if v68 = v9 then
  bm (f_X7_count 0 μ69) μ69 (fun v70 μ71 => (if v70 = v29 then
  some (1, μ71)
  else
  some (0, μ71)))
  else
  some (0, μ69)))
  else
  some (0, μ67)))
  else
  some (0, μ42))
  else
  (if v41 = (v7 - a2) then
  bm (f_X7_ofTrack a1 1 μ42) μ42 (fun v43 μ44 => (if v43 = (v9 + a2) then
  bm (f_X7_ofTrack a1 4 μ44) μ44 (fun v45 μ46 => (if v45 = (v39 + a2) then
  lt (fun (μ50 : mT) =>
  lt (fun (μ54 : mT) =>
  bd (f_L_isTimed v29 v31 v28 v22 v33 v35 v37 μ54) (fun v55 μ56 => gd (isB v55) (some (v55, μ56)))) (fun K53 =>
  f_L_isPushed_L367 a2 v7 v22 v28 v29 v31 v33 v35 v37 K53 fu 0 μ50)) (fun K49 =>
  f_L_isPushed_L312 a1 a2 v7 v9 v22 v28 v29 v31 v33 v35 v37 K49 fu 0 μ46)
  else
  some (0, μ46)))
  else
  some (0, μ44)))
  else
  some (0, μ42)))))))))))))) (fun J21 =>
  (if v9 ≤ 0 then
  J21 1 μ20
  else
  J21 2 μ20))) (fun J19 =>
  (if a2 = v7 then
  (if v12 = v17 then
  J19 μ18
  else
  some (0, μ18))
  else
  J19 μ18))) (fun J16 =>
  (if ((v14 >>> (a1 &&& 31)) &&& 1) = 1 then
  J16 1 μ15
  else
  J16 0 μ15)))) (fun J11 =>
  lt (fun (μ73 : mT) => 
  J11 0 μ73) (fun J72 =>
  (if v7 < a2 then
  J72 μ10
  else
  bm (f_X7_ofTrack a1 2 μ10) μ10 (fun v74 μ75 => lt (fun (v77 : Int32) (μ78 : mT) => 
  bd (f_L_lengths 60 v77 v7 μ78) (fun v79 μ80 => bm (f_X7_ofTrack a1 0 μ80) μ80 (fun v81 μ82 => (if v81 < (v74 + v79) then
  J72 μ82
  else
  J11 1 μ82)))) (fun J76 =>
  (if v7 ≤ a2 then
  J76 0 μ75
  else
  J76 (v7 - a2) μ75))))))))))
  else
  bm (f_X7_push a1 a2 μ2) μ2 (fun v83 μ84 => (if v83 = ((-1)) then
  some (1, μ84)
  else
  some (0, μ84)))))
def f_L_isRound_L129 (v3 : Int32) (v12 : Int32) (v13 : Int32) (v15 : Int32) (v17 : Int32) (v19 : Int32) (v21 : Int32) (v23 : Int32) (K27 : mT → Option (Int32 × mT)) : Nat → Int32 → mT → Option (Int32 × mT)
  | 0, _, _ => none
  | n + 1, v25, μ26 =>
      (if v3 ≤ v25 then
      K27 μ26
      else
      bm (f_X7_at ((-6)) v25 μ26) μ26 (fun v35 μ36 => gd (inb ((v3 - 1) - v25) 32) ((if v35 = (μ36 60 0 ((v3 - 1) - v25).toNatClampNeg) then
      lt (v25 + 1 : Int32) (fun v37 => f_L_isRound_L129 v3 v12 v13 v15 v17 v19 v21 v23 K27 n v37 μ36)
      else
      some (0, μ36)))))
def f_L_isRound  (μ : mT) : Option (Int32 × mT) :=
  lt (upR μ 60 0 (fun _ => 0)) (fun μ1 => bd (f_L_row 60 ((-6)) μ1) (fun v3 μ4 => lt (fun (v6 : Int32) (μ7 : mT) => 
  bm (f_X7_count 19 μ7) μ7 (fun v8 μ9 => bm (f_X7_count 18 μ9) μ9 (fun v10 μ11 => lt (v8 + (2 * v10) : Int32) (fun v12 => bm (f_X7_count 0 μ11) μ11 (fun v13 μ14 => bm (f_X7_freeFrom v12 μ14) μ14 (fun v15 μ16 => bm (f_X7_count 9 μ16) μ16 (fun v17 μ18 => bm (f_X7_count 10 μ18) μ18 (fun v19 μ20 => bm (f_X7_count 11 μ20) μ20 (fun v21 μ22 => bm (f_X7_round μ22) μ22 (fun v23 μ24 => (if v6 = 0 then
  (if v23 = ((-5)) then
  bm (f_X7_count 0 μ24) μ24 (fun v38 μ39 => (if v38 = v13 then
  some (1, μ39)
  else
  some (0, μ39)))
  else
  some (0, μ24))
  else
  lt (fun (μ28 : mT) =>
  bm (f_X7_count 0 μ28) μ28 (fun v29 μ30 => (if v23 = v29 then
  bm (f_X7_count 3 μ30) μ30 (fun v31 μ32 => (if v31 = v3 then
  bd (f_L_isTimed v13 v15 v12 2 v17 v19 v21 μ32) (fun v33 μ34 => (if v33 = 0 then
  some (0, μ34)
  else
  some (1, μ34)))
  else
  some (0, μ32)))
  else
  some (0, μ30)))) (fun K27 =>
  f_L_isRound_L129 v3 v12 v13 v15 v17 v19 v21 v23 K27 fu 0 μ24)))))))))))) (fun J5 =>
  lt (fun (μ41 : mT) => 
  J5 0 μ41) (fun J40 =>
  (if v3 ≤ 0 then
  J40 μ4
  else
  bm (f_X7_count 4 μ4) μ4 (fun v42 μ43 => bm (f_X7_count 16 μ43) μ43 (fun v44 μ45 => (if v44 < v42 then
  J40 μ45
  else
  J5 1 μ45))))))))
def f_L_isWagon (a1 : Int32) (a2 : Int32) (μ : mT) : Option (Int32 × mT) :=
  bm (f_X7_count 2 μ) μ (fun v1 μ2 => bm (f_X7_ofTrack a1 1 μ2) μ2 (fun v3 μ4 => bm (f_X7_ofTrack a1 2 μ4) μ4 (fun v5 μ6 => bm (f_X7_ofTrack a1 0 μ6) μ6 (fun v7 μ8 => lt (fun (v10 : Int32) (μ11 : mT) => 
  bm (f_X7_wagon a1 a2 μ11) μ11 (fun v12 μ13 => lt (fun (μ15 : mT) => 
  lt (fun (v17 : Int32) (μ18 : mT) => 
  (if v12 = v17 then
  bm (f_X7_ofTrack a1 1 μ18) μ18 (fun v19 μ20 => (if v19 = v3 then
  some (1, μ20)
  else
  some (0, μ20)))
  else
  some (0, μ18))) (fun J16 =>
  (if v1 = 30 then
  J16 ((-4)) μ15
  else
  J16 ((-5)) μ15))) (fun J14 =>
  (if v1 = 30 then
  J14 μ13
  else
  (if v10 = 0 then
  J14 μ13
  else
  (if v12 = v1 then
  bm (f_X7_at a1 0 μ13) μ13 (fun v21 μ22 => (if v21 = v1 then
  bm (f_X7_ofTrack a1 1 μ22) μ22 (fun v23 μ24 => (if v23 = (v3 + 1) then
  bm (f_X7_ofWagon v1 0 μ24) μ24 (fun v25 μ26 => (if v25 = a2 then
  bm (f_X7_ofWagon v1 5 μ26) μ26 (fun v27 μ28 => (if v27 = 0 then
  bm (f_X7_ofWagon v1 6 μ28) μ28 (fun v29 μ30 => (if v29 = ((-6)) then
  some (1, μ30)
  else
  some (0, μ30)))
  else
  some (0, μ28)))
  else
  some (0, μ26)))
  else
  some (0, μ24)))
  else
  some (0, μ22)))
  else
  some (0, μ13))))))) (fun J9 =>
  (if v7 < (v5 + a2) then
  J9 0 μ8
  else
  J9 1 μ8))))))
def f_L_isTrain_L247 (a1 : Int32) (a2 : Int32) (a3 : Int32) (v14 : Int32) (K36 : Int32 → mT → Option (Int32 × mT)) : Nat → Int32 → Int32 → mT → Option (Int32 × mT)
  | 0, _, _, _ => none
  | n + 1, v33, v34, μ35 =>
      (if 8 ≤ v34 then
      K36 v33 μ35
      else
      lt (fun (v42 : Int32) (μ43 : mT) => 
      lt (fun (v45 : Int32) (μ46 : mT) => 
      lt (v33 + v45 : Int32) (fun v47 => bm (f_X7_ofTrain v14 (2 + v34) μ46) μ46 (fun v48 μ49 => (if v48 = v42 then
      lt (fun (μ51 : mT) => 
      lt (v34 + 1 : Int32) (fun v52 => f_L_isTrain_L247 a1 a2 a3 v14 K36 n v47 v52 μ51)) (fun J50 =>
      (if v42 < 0 then
      J50 μ49
      else
      bm (f_X7_ofWagon v42 6 μ49) μ49 (fun v53 μ54 => (if v53 = v14 then
      J50 μ54
      else
      some (0, μ54)))))
      else
      some (0, μ49))))) (fun J44 =>
      (if (0 : Int32) ≤ v42 then
      bm (f_X7_ofWagon v42 0 μ43) μ43 (fun v55 μ56 => J44 v55 μ56)
      else
      J44 0 μ43))) (fun J41 =>
      (if a3 ≤ v34 then
      J41 ((-6)) μ35
      else
      J41 ((a1 + (a2 * v34)) - (a1 + (a2 * v34)) / 30 * 30) μ35)))
def f_L_isTrain_L21 (a1 : Int32) (a2 : Int32) (a3 : Int32) (a4 : Int32) (v1 : Int32) (K9 : Int64 → Int32 → Int32 → mT → Option (Int32 × mT)) : Nat → Int64 → Int32 → Int32 → Int32 → mT → Option (Int32 × mT)
  | 0, _, _, _, _, _ => none
  | n + 1, v4, v5, v6, v7, μ8 =>
      (if v7 < 0 then
      K9 v4 v5 v6 μ8
      else
      lt ((a1 + (a2 * v7)) - (a1 + (a2 * v7)) / 30 * 30 : Int32) (fun v57 => lt (fun (v59 : Int32) (μ60 : mT) => 
      lt (fun (v62 : Int32) (μ63 : mT) => 
      lt (((31 * v4) + v57.toInt64) + 1 : Int64) (fun v64 => lt (v7 + (-1) : Int32) (fun v65 => f_L_isTrain_L21 a1 a2 a3 a4 v1 K9 n v64 v59 v62 v65 μ63))) (fun J61 =>
      lt (fun (μ67 : mT) => 
      J61 0 μ67) (fun J66 =>
      (if v6 = 0 then
      J66 μ60
      else
      lt (fun (μ69 : mT) => 
      J61 1 μ69) (fun J68 =>
      (if v1 ≤ v57 then
      J68 μ60
      else
      bm (f_X7_ofWagon v57 6 μ60) μ60 (fun v70 μ71 => (if (0 : Int32) ≤ v70 then
      J66 μ71
      else
      J68 μ71)))))))) (fun J58 =>
      lt (fun (μ73 : mT) => 
      J58 0 μ73) (fun J72 =>
      (if v5 = 0 then
      J72 μ8
      else
      (if v1 ≤ v57 then
      J72 μ8
      else
      bm (f_X7_ofWagon v57 4 μ8) μ8 (fun v74 μ75 => (if (0 : Int32) ≤ v74 then
      J72 μ75
      else
      J58 1 μ75))))))))
def f_L_isTrain (a1 : Int32) (a2 : Int32) (a3 : Int32) (a4 : Int32) (μ : mT) : Option (Int32 × mT) :=
  bm (f_X7_count 2 μ) μ (fun v1 μ2 => lt (a3 - 1 : Int32) (fun v3 => lt (fun (v10 : Int64) (v11 : Int32) (v12 : Int32) (μ13 : mT) =>
  bm (f_X7_count 6 μ13) μ13 (fun v14 μ15 => bm (f_X7_count 0 μ15) μ15 (fun v16 μ17 => bm (f_X7_train v10 (v16 + a4) μ17) μ17 (fun v18 μ19 => lt (fun (μ21 : mT) => 
  lt (fun (v23 : Int32) (μ24 : mT) => 
  (if v18 = v23 then
  bm (f_X7_count 6 μ24) μ24 (fun v25 μ26 => (if v25 = v14 then
  some (1, μ26)
  else
  some (0, μ26)))
  else
  some (0, μ24))) (fun J22 =>
  (if v11 = 0 then
  J22 ((-2)) μ21
  else
  (if v14 = 8 then
  J22 ((-4)) μ21
  else
  J22 ((-5)) μ21)))) (fun J20 =>
  (if v11 = 0 then
  J20 μ19
  else
  (if v14 = 8 then
  J20 μ19
  else
  (if v12 = 0 then
  J20 μ19
  else
  (if v18 = v14 then
  bm (f_X7_ofTrain v14 0 μ19) μ19 (fun v27 μ28 => (if v27 = a3 then
  bm (f_X7_ofTrain v14 1 μ28) μ28 (fun v29 μ30 => bm (f_X7_count 0 μ30) μ30 (fun v31 μ32 => (if v29 = (v31 + a4) then
  lt (fun (v37 : Int32) (μ38 : mT) =>
  bm (f_X7_ofTrain v14 10 μ38) μ38 (fun v39 μ40 => (if v39 = v37 then
  some (1, μ40)
  else
  some (0, μ40)))) (fun K36 =>
  f_L_isTrain_L247 a1 a2 a3 v14 K36 fu 0 0 μ32)
  else
  some (0, μ32))))
  else
  some (0, μ28)))
  else
  some (0, μ19)))))))))) (fun K9 =>
  f_L_isTrain_L21 a1 a2 a3 a4 v1 K9 fu 0 1 1 v3 μ2)))
def f_L_isLeft_L53 (a1 : Int32) (v1 : Int32) (v3 : Int32) (K13 : Int32 → mT → Option (Int32 × mT)) : Nat → Int32 → Int32 → mT → Option (Int32 × mT)
  | 0, _, _, _ => none
  | n + 1, v10, v11, μ12 =>
      (if v3 ≤ v11 then
      K13 v10 μ12
      else
      (if v10 = 0 then
      K13 v10 μ12
      else
      bm (f_X7_ofTrain a1 (2 + v11) μ12) μ12 (fun v63 μ64 => bm (f_X7_at ((-6)) v11 μ64) μ64 (fun v65 μ66 => lt (fun (v68 : Int32) (μ69 : mT) => 
      lt (v11 + 1 : Int32) (fun v70 => f_L_isLeft_L53 a1 v1 v3 K13 n v68 v70 μ69)) (fun J67 =>
      (if v63 = v65 then
      J67 1 μ66
      else
      J67 0 μ66))))))
def f_L_isLeft (a1 : Int32) (μ : mT) : Option (Int32 × mT) :=
  bm (f_X7_count 6 μ) μ (fun v1 μ2 => (if a1 < v1 then
  bm (f_X7_ofTrain a1 0 μ2) μ2 (fun v3 μ4 => bm (f_X7_count 3 μ4) μ4 (fun v5 μ6 => lt (fun (v8 : Int32) (μ9 : mT) => 
  lt (fun (v14 : Int32) (μ15 : mT) =>
  bm (f_X7_count 0 μ15) μ15 (fun v16 μ17 => bm (f_X7_ofTrain a1 1 μ17) μ17 (fun v18 μ19 => lt (fun (v21 : Int32) (μ22 : mT) => 
  bm (f_X7_count 12 μ22) μ22 (fun v23 μ24 => bm (f_X7_count 7 μ24) μ24 (fun v25 μ26 => bm (f_X7_ofTrain a1 2 μ26) μ26 (fun v27 μ28 => lt (fun (μ30 : mT) => 
  bm (f_X7_leave a1 μ30) μ30 (fun v31 μ32 => (if v14 = 0 then
  (if v31 = ((-5)) then
  bm (f_X7_count 6 μ32) μ32 (fun v47 μ48 => (if v47 = v1 then
  bm (f_X7_count 7 μ48) μ48 (fun v49 μ50 => (if v49 = v25 then
  some (1, μ50)
  else
  some (0, μ50)))
  else
  some (0, μ48)))
  else
  some (0, μ32))
  else
  (if v31 = v21 then
  bm (f_X7_count 12 μ32) μ32 (fun v33 μ34 => bm (f_X7_count 20 μ34) μ34 (fun v35 μ36 => (if v33 = (v23 + (v21 * v35)) then
  bm (f_X7_count 6 μ36) μ36 (fun v37 μ38 => (if v37 = (v1 - 1) then
  bm (f_X7_count 7 μ38) μ38 (fun v39 μ40 => (if v39 = (v25 + 1) then
  bm (f_X7_count 3 μ40) μ40 (fun v41 μ42 => (if v41 = 0 then
  bm (f_X7_ofWagon v27 4 μ42) μ42 (fun v43 μ44 => bm (f_X7_count 0 μ44) μ44 (fun v45 μ46 => (if v43 = v45 then
  some (1, μ46)
  else
  some (0, μ46))))
  else
  some (0, μ42)))
  else
  some (0, μ40)))
  else
  some (0, μ38)))
  else
  some (0, μ36))))
  else
  some (0, μ32))))) (fun J29 =>
  (if v14 = 0 then
  J29 μ28
  else
  bm (f_X7_moves a1 μ28) μ28 (fun v51 μ52 => (if v51 = 0 then
  bm (f_X7_pulls a1 μ52) μ52 (fun v53 μ54 => (if v53 = 0 then
  bm (f_X7_wouldLeave a1 μ54) μ54 (fun v55 μ56 => bm (f_X7_count 0 μ56) μ56 (fun v57 μ58 => (if v55 = v57 then
  J29 μ58
  else
  some (0, μ58))))
  else
  some (0, μ54)))
  else
  some (0, μ52))))))))) (fun J20 =>
  (if v16 ≤ v18 then
  J20 0 μ19
  else
  bm (f_X7_count 0 μ19) μ19 (fun v59 μ60 => bm (f_X7_ofTrain a1 1 μ60) μ60 (fun v61 μ62 => J20 (v59 - v61) μ62))))))) (fun K13 =>
  f_L_isLeft_L53 a1 v1 v3 K13 fu v8 0 μ9)) (fun J7 =>
  (if v3 = v5 then
  J7 1 μ6
  else
  J7 0 μ6))))
  else
  bm (f_X7_leave a1 μ2) μ2 (fun v71 μ72 => (if v71 = ((-1)) then
  some (1, μ72)
  else
  some (0, μ72)))))
def f_L_isPassed (a1 : Int32) (μ : mT) : Option (Int32 × mT) :=
  bm (f_X7_count 0 μ) μ (fun v1 μ2 => bm (f_X7_freeFrom 5 μ2) μ2 (fun v3 μ4 => bm (f_X7_pass a1 μ4) μ4 (fun v5 μ6 => lt (fun (v8 : Int32) (μ9 : mT) => 
  (if v8 = 0 then
  some (0, μ9)
  else
  bm (f_X7_count 0 μ9) μ9 (fun v10 μ11 => (if v3 < v10 then
  some (1, μ11)
  else
  bm (f_X7_freeFrom 5 μ11) μ11 (fun v12 μ13 => (if v12 = v3 then
  some (1, μ13)
  else
  some (0, μ13))))))) (fun J7 =>
  lt (fun (μ15 : mT) => 
  J7 0 μ15) (fun J14 =>
  (if v5 = (v1 + a1) then
  bm (f_X7_freeFrom 5 μ6) μ6 (fun v16 μ17 => (if v16 < v3 then
  J14 μ17
  else
  bm (f_X7_freeFrom 5 μ17) μ17 (fun v18 μ19 => bm (f_X7_count 0 μ19) μ19 (fun v20 μ21 => (if v18 < v20 then
  J14 μ21
  else
  J7 1 μ21)))))
  else
  J14 μ6))))))
def f_L_isAct (xs : Nat → Int32) (Ls : Nat) (a2 : Int32) (μ : mT) : Option (Int32 × mT) :=
  bm (f_X7_count 1 μ) μ (fun v1 μ2 => bd (f_L_cell xs Ls (a2 + 2) 9 μ2) (fun v3 μ4 => lt (fun (v6 : Int32) (μ7 : mT) => 
  bd (f_L_cell xs Ls (a2 + 1) (v1 + v6) μ7) (fun v8 μ9 => bd (f_L_cell xs Ls (a2 + 4) 3 μ9) (fun v10 μ11 => lt (fun (v13 : Int32) (μ14 : mT) => 
  bd (f_L_cell xs Ls (a2 + 3) v13 μ14) (fun v15 μ16 => lt (1 + v15 : Int32) (fun v17 => bd (f_L_cell xs Ls a2 14 μ16) (fun v18 μ19 => (if v18 = 0 then
  bd (f_L_isPulled v8 v17 μ19) (fun v20 μ21 => gd (isB v20) (some (v20, μ21)))
  else
  (if v18 = 1 then
  bd (f_L_isPulled v8 v17 μ19) (fun v22 μ23 => gd (isB v22) (some (v22, μ23)))
  else
  (if v18 = 2 then
  bd (f_L_isPulled v8 v17 μ19) (fun v24 μ25 => gd (isB v24) (some (v24, μ25)))
  else
  (if v18 = 3 then
  bd (f_L_isPulled v8 v17 μ19) (fun v26 μ27 => gd (isB v26) (some (v26, μ27)))
  else
  (if v18 = 4 then
  bd (f_L_cell xs Ls (a2 + 2) 2 μ19) (fun v28 μ29 => (if v28 = 0 then
  bm (f_X7_count 3 μ29) μ29 (fun v32 μ33 => (if v32 ≤ 0 then
  bd (f_L_isPushed v8 v17 μ33) (fun v34 μ35 => gd (isB v34) (some (v34, μ35)))
  else
  bm (f_X7_count 3 μ33) μ33 (fun v36 μ37 => bd (f_L_isPushed v8 v36 μ37) (fun v38 μ39 => gd (isB v38) (some (v38, μ39))))))
  else
  bd (f_L_isPushed v8 v17 μ29) (fun v30 μ31 => gd (isB v30) (some (v30, μ31)))))
  else
  (if v18 = 5 then
  bd (f_L_cell xs Ls (a2 + 2) 2 μ19) (fun v40 μ41 => (if v40 = 0 then
  bm (f_X7_count 3 μ41) μ41 (fun v44 μ45 => (if v44 ≤ 0 then
  bd (f_L_isPushed v8 v17 μ45) (fun v46 μ47 => gd (isB v46) (some (v46, μ47)))
  else
  bm (f_X7_count 3 μ45) μ45 (fun v48 μ49 => bd (f_L_isPushed v8 v48 μ49) (fun v50 μ51 => gd (isB v50) (some (v50, μ51))))))
  else
  bd (f_L_isPushed v8 v17 μ41) (fun v42 μ43 => gd (isB v42) (some (v42, μ43)))))
  else
  (if v18 = 6 then
  bd (f_L_cell xs Ls (a2 + 2) 2 μ19) (fun v52 μ53 => (if v52 = 0 then
  bm (f_X7_count 3 μ53) μ53 (fun v56 μ57 => (if v56 ≤ 0 then
  bd (f_L_isPushed v8 v17 μ57) (fun v58 μ59 => gd (isB v58) (some (v58, μ59)))
  else
  bm (f_X7_count 3 μ57) μ57 (fun v60 μ61 => bd (f_L_isPushed v8 v60 μ61) (fun v62 μ63 => gd (isB v62) (some (v62, μ63))))))
  else
  bd (f_L_isPushed v8 v17 μ53) (fun v54 μ55 => gd (isB v54) (some (v54, μ55)))))
  else
  (if v18 = 7 then
  bd (f_L_isRound μ19) (fun v64 μ65 => gd (isB v64) (some (v64, μ65)))
  else
  (if v18 = 8 then
  bm (f_X7_count 1 μ19) μ19 (fun v66 μ67 => bd (f_L_cell xs Ls (a2 + 1) v66 μ67) (fun v68 μ69 => bd (f_L_cell xs Ls (a2 + 3) 4 μ69) (fun v70 μ71 => bd (f_L_isWagon v68 (1 + v70) μ71) (fun v72 μ73 => gd (isB v72) (some (v72, μ73))))))
  else
  (if v18 = 9 then
  bd (f_L_cell xs Ls (a2 + 5) 4 μ19) (fun v74 μ75 => lt (fun (v77 : Int32) (μ78 : mT) => 
  bd (f_L_cell xs Ls (a2 + 2) v77 μ78) (fun v79 μ80 => bd (f_L_cell xs Ls (a2 + 3) 3 μ80) (fun v81 μ82 => bd (f_L_cell xs Ls (a2 + 4) 4 μ82) (fun v83 μ84 => bd (f_L_cell xs Ls (a2 + 5) 200 μ84) (fun v85 μ86 => bd (f_L_isTrain v79 (1 + v81) (1 + v83) v85 μ86) (fun v87 μ88 => gd (isB v87) (some (v87, μ88)))))))) (fun J76 =>
  (if v74 = 0 then
  J76 30 μ75
  else
  J76 12 μ75)))
  else
  (if v18 = 10 then
  bm (f_X7_count 6 μ19) μ19 (fun v89 μ90 => bd (f_L_cell xs Ls (a2 + 2) (v89 + 1) μ90) (fun v91 μ92 => bd (f_L_isLeft v91 μ92) (fun v93 μ94 => gd (isB v93) (some (v93, μ94)))))
  else
  (if v18 = 11 then
  bm (f_X7_count 6 μ19) μ19 (fun v95 μ96 => bd (f_L_cell xs Ls (a2 + 2) (v95 + 1) μ96) (fun v97 μ98 => bd (f_L_isLeft v97 μ98) (fun v99 μ100 => gd (isB v99) (some (v99, μ100)))))
  else
  (if v18 = 12 then
  bm (f_X7_count 8 μ19) μ19 (fun v101 μ102 => bm (f_X7_count 0 μ102) μ102 (fun v103 μ104 => bd (f_L_cell xs Ls (a2 + 2) 40 μ104) (fun v105 μ106 => bd (f_L_cell xs Ls (a2 + 3) 50 μ106) (fun v107 μ108 => bm (f_X7_block (v103 + v105) (1 + v107) μ108) μ108 (fun v109 μ110 => lt (fun (v112 : Int32) (μ113 : mT) => 
  (if v109 = v112 then
  some (1, μ113)
  else
  some (0, μ113))) (fun J111 =>
  (if v101 = 10 then
  J111 ((-4)) μ110
  else
  J111 (v101 + 1) μ110)))))))
  else
  bd (f_L_cell xs Ls (a2 + 2) 60 μ19) (fun v114 μ115 => bd (f_L_isPassed (1 + v114) μ115) (fun v116 μ117 => gd (isB v116) (some (v116, μ117))))))))))))))))))))) (fun J12 =>
  (if v10 = 0 then
  J12 6 μ11
  else
  J12 3 μ11))))) (fun J5 =>
  (if v3 = 0 then
  J5 1 μ4
  else
  J5 0 μ4))))
def f_L_isServed_L36 (K9 : Int64 → mT → Option (Int32 × mT)) : Nat → Int64 → Int32 → mT → Option (Int32 × mT)
  | 0, _, _, _ => none
  | n + 1, v6, v7, μ8 =>
      (if v7 < 0 then
      K9 v6 μ8
      else
      bm (f_X7_at ((-6)) v7 μ8) μ8 (fun v22 μ23 => bm (f_X7_ofWagon v22 6 μ23) μ23 (fun v24 μ25 => (if v24 < 0 then
      bm (f_X7_at ((-6)) v7 μ25) μ25 (fun v26 μ27 => lt (((31 * v6) + v26.toInt64) + 1 : Int64) (fun v28 => lt (v7 + (-1) : Int32) (fun v29 => f_L_isServed_L36 K9 n v28 v29 μ27)))
      else
      some (1, μ25)))))
def f_L_isServed  (μ : mT) : Option (Int32 × mT) :=
  bm (f_X7_count 3 μ) μ (fun v1 μ2 => (if v1 = 0 then
  some (1, μ2)
  else
  (if 8 < v1 then
  some (1, μ2)
  else
  bm (f_X7_count 6 μ2) μ2 (fun v3 μ4 => (if v3 = 8 then
  some (1, μ4)
  else
  lt (v1 - 1 : Int32) (fun v5 => lt (fun (v10 : Int64) (μ11 : mT) =>
  bm (f_X7_count 0 μ11) μ11 (fun v12 μ13 => bm (f_X7_train v10 v12 μ13) μ13 (fun v14 μ15 => bm (f_X7_count 6 μ15) μ15 (fun v16 μ17 => (if v14 = (v16 - 1) then
  bm (f_X7_straight v14 μ17) μ17 (fun v18 μ19 => (if v18 = 1 then
  bd (f_L_isLeft v14 μ19) (fun v20 μ21 => (if v20 = 0 then
  some (0, μ21)
  else
  some (1, μ21)))
  else
  some (0, μ19)))
  else
  some (0, μ17)))))) (fun K9 =>
  f_L_isServed_L36 K9 fu 0 v5 μ4)))))))
def f_L_law_L130 (xs : Nat → Int32) (Ls : Nat) : Nat → Int32 → mT → Option (Int32 × mT)
  | 0, _, _ => none
  | n + 1, v21, μ22 =>
      (if 48 ≤ v21 then
      bd (f_L_agree μ22) (fun v23 μ24 => some (v23, μ24))
      else
      bd (f_L_isAct xs Ls (30 + (6 * v21)) μ22) (fun v25 μ26 => (if v25 = 0 then
      some (0, μ26)
      else
      bd (f_L_agree μ26) (fun v27 μ28 => (if v27 = 0 then
      some (0, μ28)
      else
      lt (fun (μ30 : mT) => 
      lt (v21 + 1 : Int32) (fun v31 => f_L_law_L130 xs Ls n v31 μ30)) (fun J29 =>
      (if (v21 - v21 / 16 * 16) = 15 then
      bd (f_L_isServed μ28) (fun v32 μ33 => (if v32 = 0 then
      some (0, μ33)
      else
      J29 μ33))
      else
      J29 μ28)))))))
def f_L_law_L87 (xs : Nat → Int32) (Ls : Nat) (K19 : mT → Option (Int32 × mT)) : Nat → Int32 → mT → Option (Int32 × mT)
  | 0, _, _ => none
  | n + 1, v17, μ18 =>
      (if 12 ≤ v17 then
      K19 μ18
      else
      bd (f_L_cell xs Ls (6 + v17) 3 μ18) (fun v34 μ35 => bd (f_L_cell xs Ls (18 + v17) 3 μ35) (fun v36 μ37 => bd (f_L_isWagon v34 (1 + v36) μ37) (fun v38 μ39 => (if v38 = 0 then
      some (0, μ39)
      else
      lt (v17 + 1 : Int32) (fun v40 => f_L_law_L87 xs Ls K19 n v40 μ39))))))
def f_L_law_L52 (xs : Nat → Int32) (Ls : Nat) (K15 : mT → Option (Int32 × mT)) : Nat → Int32 → mT → Option (Int32 × mT)
  | 0, _, _ => none
  | n + 1, v13, μ14 =>
      (if 3 ≤ v13 then
      K15 μ14
      else
      bd (f_L_cell xs Ls (3 + v13) 50 μ14) (fun v41 μ42 => bm (f_X7_track (8 + v41) μ42) μ42 (fun v43 μ44 => (if v43 = v13 then
      lt (v13 + 1 : Int32) (fun v45 => f_L_law_L52 xs Ls K15 n v45 μ44)
      else
      some (0, μ44)))))
def f_L_law (xs : Nat → Int32) (Ls : Nat) (μ : mT) : Option (Int32 × mT) :=
  bd (f_L_cell xs Ls 0 40 μ) (fun v1 μ2 => bm (f_X7_set 0 (4 + v1) μ2) μ2 (fun v3 μ4 => bd (f_L_cell xs Ls 1 40 μ4) (fun v5 μ6 => bm (f_X7_set 1 (2 + v5) μ6) μ6 (fun v7 μ8 => bd (f_L_cell xs Ls 2 4 μ8) (fun v9 μ10 => bm (f_X7_set 3 v9 μ10) μ10 (fun v11 μ12 => lt (fun (μ16 : mT) =>
  lt (fun (μ20 : mT) =>
  f_L_law_L130 xs Ls fu 0 μ20) (fun K19 =>
  f_L_law_L87 xs Ls K19 fu 0 μ16)) (fun K15 =>
  f_L_law_L52 xs Ls K15 fu 0 μ12)))))))
