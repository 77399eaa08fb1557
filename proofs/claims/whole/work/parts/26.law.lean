abbrev mL_law_ : MI := (yL_law_, cL_law_, 8, some .boolean)
def f_law (xs : Nat → Int32) (L : Nat) : Nat → Int32 → AH → Option (AH ⊕ Unit)
  | 0, _, _ => none
  | n + 1, v4, h => if ((Int32.ofNat L) - 6) < v4 then some (.inl h) else gd (ib v4 L = true) (if ((xs (cl v4)) &&& 63) = 0 then gd (ib (v4 + 1) L = true) (gd (ib (v4 + 2) L = true) (gd (ib (v4 + 3) L = true) (gd (ib (v4 + 4) L = true) (gd (ib (v4 + 5) L = true) (bnd (f_X11_feed (xs (cl (v4 + 1))) (xs (cl (v4 + 2))) (xs (cl (v4 + 3))) (xs (cl (v4 + 4))) (xs (cl (v4 + 5))) h) (fun q9 => gd (ib (v4 + 1) L = true) (gd (ib (v4 + 2) L = true) (gd (ib (v4 + 3) L = true) (gd (ib (v4 + 4) L = true) (gd (ib (v4 + 5) L = true) (bnd (f_X12_feed (xs (cl (v4 + 1))) (xs (cl (v4 + 2))) (xs (cl (v4 + 3))) (xs (cl (v4 + 4))) (xs (cl (v4 + 5))) q9.2) (fun q15 => if q9.1 = q15.1 then f_law xs L n (v4 + 6) q15.2 else some (.inr ()))))))))))))) else (if ((xs (cl v4)) &&& 63) = 1 then gd (ib (v4 + 1) L = true) (gd (ib (v4 + 2) L = true) (bnd (f_L_book (xs (cl (v4 + 1))) (xs (cl (v4 + 2))) h) (fun q20 => gd (ib (v4 + 1) L = true) (gd (ib (v4 + 2) L = true) (bnd (f_X12_book (xs (cl (v4 + 1))) (xs (cl (v4 + 2))) q20.2) (fun q23 => if (f_X12_thrown q23.2) = q20.1 then if q20.1 = 0 then gd (ib 0 1 = true) (if (lg_cmp (hla q23.2 236 (cl 0)) q23.1.toInt64) = 0 then f_law xs L n (v4 + 6) q23.2 else some (.inr ())) else f_law xs L n (v4 + 6) q23.2 else some (.inr ()))))))) else (if ((xs (cl v4)) &&& 63) = 2 then gd (ib (v4 + 1) L = true) (bnd (f_L_law (xs (cl (v4 + 1))) h) (fun q30 => gd (ib (v4 + 1) L = true) (bnd (f_X12_law (xs (cl (v4 + 1))) q30.2) (fun q32 => if (f_X12_thrown q32.2) = q30.1 then if q30.1 = 0 then gd (ib 0 1 = true) (if (lg_cmp (hla q32.2 236 (cl 0)) q32.1.toInt64) = 0 then f_law xs L n (v4 + 6) q32.2 else some (.inr ())) else f_law xs L n (v4 + 6) q32.2 else some (.inr ()))))) else (if ((xs (cl v4)) &&& 63) = 3 then gd (ib (v4 + 1) L = true) (gd (ib (v4 + 2) L = true) (bnd (f_L_way (xs (cl (v4 + 1))) (xs (cl (v4 + 2))) h) (fun q40 => gd (ib (v4 + 1) L = true) (gd (ib (v4 + 2) L = true) (bnd (f_X12_way (xs (cl (v4 + 1))) (xs (cl (v4 + 2))) q40.2) (fun q43 => if (f_X12_thrown q43.2) = q40.1 then if q40.1 = 0 then gd (ib 0 1 = true) (if (lg_cmp (hla q43.2 236 (cl 0)) q43.1.toInt64) = 0 then f_law xs L n (v4 + 6) q43.2 else some (.inr ())) else f_law xs L n (v4 + 6) q43.2 else some (.inr ()))))))) else (if ((xs (cl v4)) &&& 63) = 4 then bnd (f_X12_fault h) (fun q49 => if (f_X11_fault h) = q49.1 then f_law xs L n (v4 + 6) q49.2 else some (.inr ())) else (if ((xs (cl v4)) &&& 63) = 5 then gd (ib (v4 + 1) L = true) (bnd (f_L_count (xs (cl (v4 + 1))) h) (fun q53 => gd (ib (v4 + 1) L = true) (bnd (f_X12_count (xs (cl (v4 + 1))) q53.2) (fun q55 => if (f_X12_thrown q55.2) = q53.1 then if q53.1 = 0 then gd (ib 0 1 = true) (if (lg_cmp (hla q55.2 236 (cl 0)) q55.1.toInt64) = 0 then f_law xs L n (v4 + 6) q55.2 else some (.inr ())) else f_law xs L n (v4 + 6) q55.2 else some (.inr ()))))) else (if ((xs (cl v4)) &&& 63) = 6 then gd (ib (v4 + 1) L = true) (gd (ib (v4 + 2) L = true) (bnd (f_L_about (xs (cl (v4 + 1))) (xs (cl (v4 + 2))) h) (fun q63 => gd (ib (v4 + 1) L = true) (gd (ib (v4 + 2) L = true) (bnd (f_X12_about (xs (cl (v4 + 1))) (xs (cl (v4 + 2))) q63.2) (fun q66 => if (f_X12_thrown q66.2) = q63.1 then if q63.1 = 0 then gd (ib 0 1 = true) (if (lg_cmp (hla q66.2 236 (cl 0)) q66.1.toInt64) = 0 then f_law xs L n (v4 + 6) q66.2 else some (.inr ())) else f_law xs L n (v4 + 6) q66.2 else some (.inr ()))))))) else (if ((xs (cl v4)) &&& 63) = 7 then gd (ib (v4 + 1) L = true) (gd (ib (v4 + 2) L = true) (gd (ib (v4 + 3) L = true) (bnd (f_L_leaf (xs (cl (v4 + 1))) (xs (cl (v4 + 2))) (xs (cl (v4 + 3))) h) (fun q75 => gd (ib (v4 + 1) L = true) (gd (ib (v4 + 2) L = true) (gd (ib (v4 + 3) L = true) (bnd (f_X12_leaf (xs (cl (v4 + 1))) (xs (cl (v4 + 2))) (xs (cl (v4 + 3))) q75.2) (fun q79 => if (f_X12_thrown q79.2) = q75.1 then if q75.1 = 0 then gd (ib 0 1 = true) (if (lg_cmp (hla q79.2 236 (cl 0)) q79.1.toInt64) = 0 then f_law xs L n (v4 + 6) q79.2 else some (.inr ())) else f_law xs L n (v4 + 6) q79.2 else some (.inr ()))))))))) else (if ((xs (cl v4)) &&& 63) = 8 then gd (ib (v4 + 1) L = true) (gd (ib (v4 + 2) L = true) (gd (ib (v4 + 3) L = true) (bnd (f_L_turnings (xs (cl (v4 + 1))) (xs (cl (v4 + 2))) (xs (cl (v4 + 3))) h) (fun q88 => gd (ib (v4 + 1) L = true) (gd (ib (v4 + 2) L = true) (gd (ib (v4 + 3) L = true) (bnd (f_X12_turnings (xs (cl (v4 + 1))) (xs (cl (v4 + 2))) (xs (cl (v4 + 3))) q88.2) (fun q92 => if (f_X12_thrown q92.2) = q88.1 then if q88.1 = 0 then gd (ib 0 1 = true) (if (lg_cmp (hla q92.2 236 (cl 0)) q92.1.toInt64) = 0 then f_law xs L n (v4 + 6) q92.2 else some (.inr ())) else f_law xs L n (v4 + 6) q92.2 else some (.inr ()))))))))) else (if ((xs (cl v4)) &&& 63) = 9 then gd (ib (v4 + 1) L = true) (gd (ib (v4 + 2) L = true) (gd (ib (v4 + 3) L = true) (gd (ib (v4 + 4) L = true) (bnd (f_L_reader (xs (cl (v4 + 1))) (xs (cl (v4 + 2))) (xs (cl (v4 + 3))) (xs (cl (v4 + 4))) h) (fun q102 => gd (ib (v4 + 1) L = true) (gd (ib (v4 + 2) L = true) (gd (ib (v4 + 3) L = true) (gd (ib (v4 + 4) L = true) (bnd (f_X12_reader (xs (cl (v4 + 1))) (xs (cl (v4 + 2))) (xs (cl (v4 + 3))) (xs (cl (v4 + 4))) q102.2) (fun q107 => if (f_X12_thrown q107.2) = q102.1 then if q102.1 = 0 then gd (ib 0 1 = true) (if (lg_cmp (hla q107.2 236 (cl 0)) q107.1.toInt64) = 0 then f_law xs L n (v4 + 6) q107.2 else some (.inr ())) else f_law xs L n (v4 + 6) q107.2 else some (.inr ()))))))))))) else (if ((xs (cl v4)) &&& 63) = 10 then gd (ib (v4 + 1) L = true) (bnd (f_L_gone (xs (cl (v4 + 1))) h) (fun q114 => gd (ib (v4 + 1) L = true) (bnd (f_X12_gone (xs (cl (v4 + 1))) q114.2) (fun q116 => if (f_X12_thrown q116.2) = q114.1 then if q114.1 = 0 then gd (ib 0 1 = true) (if (lg_cmp (hla q116.2 236 (cl 0)) q116.1.toInt64) = 0 then f_law xs L n (v4 + 6) q116.2 else some (.inr ())) else f_law xs L n (v4 + 6) q116.2 else some (.inr ()))))) else (if ((xs (cl v4)) &&& 63) = 11 then gd (ib (v4 + 1) L = true) (gd (ib (v4 + 2) L = true) (gd (ib (v4 + 3) L = true) (bnd (f_L_dirt (xs (cl (v4 + 1))) (xs (cl (v4 + 2))) (xs (cl (v4 + 3))) h) (fun q125 => gd (ib (v4 + 1) L = true) (gd (ib (v4 + 2) L = true) (gd (ib (v4 + 3) L = true) (bnd (f_X12_dirt (xs (cl (v4 + 1))) (xs (cl (v4 + 2))) (xs (cl (v4 + 3))) q125.2) (fun q129 => if (f_X12_thrown q129.2) = q125.1 then if q125.1 = 0 then gd (ib 0 1 = true) (if (lg_cmp (hla q129.2 236 (cl 0)) q129.1.toInt64) = 0 then f_law xs L n (v4 + 6) q129.2 else some (.inr ())) else f_law xs L n (v4 + 6) q129.2 else some (.inr ()))))))))) else (if ((xs (cl v4)) &&& 63) = 12 then gd (ib (v4 + 1) L = true) (gd (ib (v4 + 2) L = true) (bnd (f_L_drawn (xs (cl (v4 + 1))) (xs (cl (v4 + 2))) h) (fun q137 => gd (ib (v4 + 1) L = true) (gd (ib (v4 + 2) L = true) (bnd (f_X12_drawn (xs (cl (v4 + 1))) (xs (cl (v4 + 2))) q137.2) (fun q140 => if (f_X12_thrown q140.2) = q137.1 then if q137.1 = 0 then gd (ib 0 1 = true) (if (lg_cmp (hla q140.2 236 (cl 0)) q140.1.toInt64) = 0 then f_law xs L n (v4 + 6) q140.2 else some (.inr ())) else f_law xs L n (v4 + 6) q140.2 else some (.inr ()))))))) else (if ((xs (cl v4)) &&& 63) = 13 then gd (ib (v4 + 1) L = true) (gd (ib (v4 + 2) L = true) (gd (ib (v4 + 3) L = true) (bnd (f_L_read (xs (cl (v4 + 1))) (xs (cl (v4 + 2))) (xs (cl (v4 + 3))) h) (fun q149 => gd (ib (v4 + 1) L = true) (gd (ib (v4 + 2) L = true) (gd (ib (v4 + 3) L = true) (bnd (f_X12_read (xs (cl (v4 + 1))) (xs (cl (v4 + 2))) (xs (cl (v4 + 3))) q149.2) (fun q153 => if (f_X12_thrown q153.2) = q149.1 then if q149.1 = 0 then gd (ib 0 1 = true) (if (bI q153.1) = 0 then if (lg_cmp (hla q153.2 236 (cl 0)) 0) = 0 then f_law xs L n (v4 + 6) q153.2 else some (.inr ()) else if (lg_cmp (hla q153.2 236 (cl 0)) 1) = 0 then f_law xs L n (v4 + 6) q153.2 else some (.inr ())) else f_law xs L n (v4 + 6) q153.2 else some (.inr ()))))))))) else (if ((xs (cl v4)) &&& 63) = 14 then gd (ib (v4 + 1) L = true) (gd (ib (v4 + 2) L = true) (gd (ib (v4 + 3) L = true) (bnd (f_L_bounds (xs (cl (v4 + 1))) (xs (cl (v4 + 2))) (xs (cl (v4 + 3))) h) (fun q164 => gd (ib (v4 + 1) L = true) (gd (ib (v4 + 2) L = true) (gd (ib (v4 + 3) L = true) (bnd (f_X12_bounds (xs (cl (v4 + 1))) (xs (cl (v4 + 2))) (xs (cl (v4 + 3))) q164.2) (fun q168 => if (f_X12_thrown q168.2) = q164.1 then if q164.1 = 0 then gd (ib 0 1 = true) (if (lg_cmp (hla q168.2 236 (cl 0)) q168.1.toInt64) = 0 then f_law xs L n (v4 + 6) q168.2 else some (.inr ())) else f_law xs L n (v4 + 6) q168.2 else some (.inr ()))))))))) else (if ((xs (cl v4)) &&& 63) = 15 then gd (ib (v4 + 1) L = true) (gd (ib (v4 + 2) L = true) (bnd (f_L_light (xs (cl (v4 + 1))) (xs (cl (v4 + 2))) h) (fun q176 => gd (ib (v4 + 1) L = true) (gd (ib (v4 + 2) L = true) (bnd (f_X12_light (xs (cl (v4 + 1))) (xs (cl (v4 + 2))) q176.2) (fun q179 => if (f_X12_thrown q179.2) = q176.1 then if q176.1 = 0 then gd (ib 0 1 = true) (if (lg_cmp (hla q179.2 236 (cl 0)) q179.1.toInt64) = 0 then f_law xs L n (v4 + 6) q179.2 else some (.inr ())) else f_law xs L n (v4 + 6) q179.2 else some (.inr ()))))))) else (if ((xs (cl v4)) &&& 63) = 16 then gd (ib (v4 + 1) L = true) (gd (ib (v4 + 2) L = true) (bnd (f_L_sleepy (xs (cl (v4 + 1))) (xs (cl (v4 + 2))) h) (fun q187 => gd (ib (v4 + 1) L = true) (gd (ib (v4 + 2) L = true) (bnd (f_X12_sleepy (xs (cl (v4 + 1))) (xs (cl (v4 + 2))) q187.2) (fun q190 => if (f_X12_thrown q190.2) = q187.1 then if q187.1 = 0 then gd (ib 0 1 = true) (if (lg_cmp (hla q190.2 236 (cl 0)) q190.1.toInt64) = 0 then f_law xs L n (v4 + 6) q190.2 else some (.inr ())) else f_law xs L n (v4 + 6) q190.2 else some (.inr ()))))))) else (if ((xs (cl v4)) &&& 63) = 17 then gd (ib (v4 + 1) L = true) (gd (ib (v4 + 2) L = true) (bnd (f_L_humps (xs (cl (v4 + 1))) (xs (cl (v4 + 2))) h) (fun q198 => gd (ib (v4 + 1) L = true) (gd (ib (v4 + 2) L = true) (bnd (f_X12_humps (xs (cl (v4 + 1))) (xs (cl (v4 + 2))) q198.2) (fun q201 => if (f_X12_thrown q201.2) = q198.1 then if q198.1 = 0 then gd (ib 0 1 = true) (if (lg_cmp (hla q201.2 236 (cl 0)) q201.1) = 0 then f_law xs L n (v4 + 6) q201.2 else some (.inr ())) else f_law xs L n (v4 + 6) q201.2 else some (.inr ()))))))) else (if ((xs (cl v4)) &&& 63) = 18 then gd (ib (v4 + 1) L = true) (gd (ib (v4 + 2) L = true) (gd (ib (v4 + 3) L = true) (bnd (f_L_hump (xs (cl (v4 + 1))) (xs (cl (v4 + 2))) (xs (cl (v4 + 3))) h) (fun q210 => gd (ib (v4 + 1) L = true) (gd (ib (v4 + 2) L = true) (gd (ib (v4 + 3) L = true) (bnd (f_X12_hump (xs (cl (v4 + 1))) (xs (cl (v4 + 2))) (xs (cl (v4 + 3))) q210.2) (fun q214 => if (f_X12_thrown q214.2) = q210.1 then if q210.1 = 0 then gd (ib 0 1 = true) (if (lg_cmp (hla q214.2 236 (cl 0)) q214.1.toInt64) = 0 then f_law xs L n (v4 + 6) q214.2 else some (.inr ())) else f_law xs L n (v4 + 6) q214.2 else some (.inr ()))))))))) else (if ((xs (cl v4)) &&& 63) = 19 then gd (ib (v4 + 1) L = true) (gd (ib (v4 + 2) L = true) (gd (ib (v4 + 3) L = true) (bnd (f_L_fitted (xs (cl (v4 + 1))) (xs (cl (v4 + 2))) (xs (cl (v4 + 3))) h) (fun q223 => gd (ib (v4 + 1) L = true) (gd (ib (v4 + 2) L = true) (gd (ib (v4 + 3) L = true) (bnd (f_X12_fitted (xs (cl (v4 + 1))) (xs (cl (v4 + 2))) (xs (cl (v4 + 3))) q223.2) (fun q227 => if (f_X12_thrown q227.2) = q223.1 then if q223.1 = 0 then gd (ib 0 1 = true) (if (lg_cmp (hla q227.2 236 (cl 0)) q227.1.toInt64) = 0 then f_law xs L n (v4 + 6) q227.2 else some (.inr ())) else f_law xs L n (v4 + 6) q227.2 else some (.inr ()))))))))) else (if ((xs (cl v4)) &&& 63) = 20 then gd (ib (v4 + 1) L = true) (bnd (f_L_years (xs (cl (v4 + 1))) h) (fun q234 => gd (ib (v4 + 1) L = true) (bnd (f_X12_years (xs (cl (v4 + 1))) q234.2) (fun q236 => if (f_X12_thrown q236.2) = q234.1 then if q234.1 = 0 then gd (ib 0 1 = true) (if (lg_cmp (hla q236.2 236 (cl 0)) q236.1.toInt64) = 0 then f_law xs L n (v4 + 6) q236.2 else some (.inr ())) else f_law xs L n (v4 + 6) q236.2 else some (.inr ()))))) else (if ((xs (cl v4)) &&& 63) = 21 then gd (ib (v4 + 1) L = true) (bnd (f_L_whose (xs (cl (v4 + 1))) h) (fun q243 => gd (ib (v4 + 1) L = true) (bnd (f_X12_whose (xs (cl (v4 + 1))) q243.2) (fun q245 => if (f_X12_thrown q245.2) = q243.1 then if q243.1 = 0 then gd (ib 0 1 = true) (if (lg_cmp (hla q245.2 236 (cl 0)) q245.1.toInt64) = 0 then f_law xs L n (v4 + 6) q245.2 else some (.inr ())) else f_law xs L n (v4 + 6) q245.2 else some (.inr ()))))) else (if ((xs (cl v4)) &&& 63) = 22 then gd (ib (v4 + 1) L = true) (gd (ib (v4 + 2) L = true) (bnd (f_L_order (xs (cl (v4 + 1))) (xs (cl (v4 + 2))) h) (fun q253 => gd (ib (v4 + 1) L = true) (gd (ib (v4 + 2) L = true) (bnd (f_X12_order (xs (cl (v4 + 1))) (xs (cl (v4 + 2))) q253.2) (fun q256 => if (f_X12_thrown q256.2) = q253.1 then if q253.1 = 0 then gd (ib 0 1 = true) (if (lg_cmp (hla q256.2 236 (cl 0)) q256.1.toInt64) = 0 then f_law xs L n (v4 + 6) q256.2 else some (.inr ())) else f_law xs L n (v4 + 6) q256.2 else some (.inr ()))))))) else (if ((xs (cl v4)) &&& 63) = 23 then gd (ib (v4 + 1) L = true) (gd (ib (v4 + 2) L = true) (bnd (f_L_falls (xs (cl (v4 + 1))) (xs (cl (v4 + 2))) h) (fun q264 => gd (ib (v4 + 1) L = true) (gd (ib (v4 + 2) L = true) (bnd (f_X12_falls (xs (cl (v4 + 1))) (xs (cl (v4 + 2))) q264.2) (fun q267 => if (f_X12_thrown q267.2) = q264.1 then if q264.1 = 0 then gd (ib 0 1 = true) (if (lg_cmp (hla q267.2 236 (cl 0)) q267.1.toInt64) = 0 then f_law xs L n (v4 + 6) q267.2 else some (.inr ())) else f_law xs L n (v4 + 6) q267.2 else some (.inr ()))))))) else (if ((xs (cl v4)) &&& 63) = 24 then gd (ib (v4 + 1) L = true) (gd (ib (v4 + 2) L = true) (bnd (f_X11_blank (xs (cl (v4 + 1))) (xs (cl (v4 + 2))) h) (fun q275 => gd (ib (v4 + 1) L = true) (gd (ib (v4 + 2) L = true) (bnd (f_X12_blank (xs (cl (v4 + 1))) (xs (cl (v4 + 2))) q275.2) (fun q278 => if q275.1 = q278.1 then f_law xs L n (v4 + 6) q278.2 else some (.inr ()))))))) else (if ((xs (cl v4)) &&& 63) = 25 then bnd (f_X11_clear h) (fun q281 => bnd (f_X12_clear q281.2) (fun q282 => if q281.1 = q282.1 then f_law xs L n (v4 + 6) q282.2 else some (.inr ()))) else (if ((xs (cl v4)) &&& 63) = 26 then gd (ib (v4 + 1) L = true) (bnd (f_L_turn (xs (cl (v4 + 1))) h) (fun q286 => gd (ib (v4 + 1) L = true) (bnd (f_X12_turn (xs (cl (v4 + 1))) q286.2) (fun q288 => if (f_X12_thrown q288.2) = q286.1 then if q286.1 = 0 then gd (ib 0 1 = true) (if (lg_cmp (hla q288.2 236 (cl 0)) q288.1.toInt64) = 0 then f_law xs L n (v4 + 6) q288.2 else some (.inr ())) else f_law xs L n (v4 + 6) q288.2 else some (.inr ()))))) else (if ((xs (cl v4)) &&& 63) = 27 then gd (ib (v4 + 1) L = true) (bnd (f_L_town (xs (cl (v4 + 1))) h) (fun q295 => gd (ib (v4 + 1) L = true) (bnd (f_X12_town (xs (cl (v4 + 1))) q295.2) (fun q297 => if (f_X12_thrown q297.2) = q295.1 then if q295.1 = 0 then gd (ib 0 1 = true) (if (lg_cmp (hla q297.2 236 (cl 0)) q297.1.toInt64) = 0 then f_law xs L n (v4 + 6) q297.2 else some (.inr ())) else f_law xs L n (v4 + 6) q297.2 else some (.inr ()))))) else (if ((xs (cl v4)) &&& 63) = 28 then gd (ib (v4 + 1) L = true) (gd (ib (v4 + 2) L = true) (bnd (f_L_alike (xs (cl (v4 + 1))) (xs (cl (v4 + 2))) h) (fun q305 => gd (ib (v4 + 1) L = true) (gd (ib (v4 + 2) L = true) (bnd (f_X12_alike (xs (cl (v4 + 1))) (xs (cl (v4 + 2))) q305.2) (fun q308 => if (f_X12_thrown q308.2) = q305.1 then if q305.1 = 0 then gd (ib 0 1 = true) (if (lg_cmp (hla q308.2 236 (cl 0)) q308.1.toInt64) = 0 then f_law xs L n (v4 + 6) q308.2 else some (.inr ())) else f_law xs L n (v4 + 6) q308.2 else some (.inr ()))))))) else (if ((xs (cl v4)) &&& 63) = 29 then gd (ib (v4 + 1) L = true) (bnd (f_L_nearest (xs (cl (v4 + 1))) h) (fun q315 => gd (ib (v4 + 1) L = true) (bnd (f_X12_nearest (xs (cl (v4 + 1))) q315.2) (fun q317 => if (f_X12_thrown q317.2) = q315.1 then if q315.1 = 0 then gd (ib 0 1 = true) (if (lg_cmp (hla q317.2 236 (cl 0)) q317.1.toInt64) = 0 then f_law xs L n (v4 + 6) q317.2 else some (.inr ())) else f_law xs L n (v4 + 6) q317.2 else some (.inr ()))))) else (if ((xs (cl v4)) &&& 63) = 30 then gd (ib (v4 + 1) L = true) (gd (ib (v4 + 2) L = true) (gd (ib (v4 + 3) L = true) (bnd (f_L_sure (xs (cl (v4 + 1))) (xs (cl (v4 + 2))) (xs (cl (v4 + 3))) h) (fun q326 => gd (ib (v4 + 1) L = true) (gd (ib (v4 + 2) L = true) (gd (ib (v4 + 3) L = true) (bnd (f_X12_sure (xs (cl (v4 + 1))) (xs (cl (v4 + 2))) (xs (cl (v4 + 3))) q326.2) (fun q330 => if (f_X12_thrown q330.2) = q326.1 then if q326.1 = 0 then gd (ib 0 1 = true) (if (lg_cmp (hla q330.2 236 (cl 0)) q330.1.toInt64) = 0 then f_law xs L n (v4 + 6) q330.2 else some (.inr ())) else f_law xs L n (v4 + 6) q330.2 else some (.inr ()))))))))) else (if ((xs (cl v4)) &&& 63) = 31 then gd (ib (v4 + 1) L = true) (gd (ib (v4 + 2) L = true) (gd (ib (v4 + 3) L = true) (gd (ib (v4 + 4) L = true) (bnd (f_L_before (xs (cl (v4 + 1))) (xs (cl (v4 + 2))) (xs (cl (v4 + 3))) (xs (cl (v4 + 4))) h) (fun q340 => gd (ib (v4 + 1) L = true) (gd (ib (v4 + 2) L = true) (gd (ib (v4 + 3) L = true) (gd (ib (v4 + 4) L = true) (bnd (f_X12_before (xs (cl (v4 + 1))) (xs (cl (v4 + 2))) (xs (cl (v4 + 3))) (xs (cl (v4 + 4))) q340.2) (fun q345 => if (f_X12_thrown q345.2) = q340.1 then if q340.1 = 0 then gd (ib 0 1 = true) (if (lg_cmp (hla q345.2 236 (cl 0)) q345.1.toInt64) = 0 then f_law xs L n (v4 + 6) q345.2 else some (.inr ())) else f_law xs L n (v4 + 6) q345.2 else some (.inr ()))))))))))) else (if ((xs (cl v4)) &&& 63) = 32 then gd (ib (v4 + 1) L = true) (gd (ib (v4 + 2) L = true) (gd (ib (v4 + 3) L = true) (gd (ib (v4 + 4) L = true) (bnd (f_L_told (xs (cl (v4 + 1))) (xs (cl (v4 + 2))) (xs (cl (v4 + 3))) (xs (cl (v4 + 4))) h) (fun q355 => gd (ib (v4 + 1) L = true) (gd (ib (v4 + 2) L = true) (gd (ib (v4 + 3) L = true) (gd (ib (v4 + 4) L = true) (bnd (f_X12_told (xs (cl (v4 + 1))) (xs (cl (v4 + 2))) (xs (cl (v4 + 3))) (xs (cl (v4 + 4))) q355.2) (fun q360 => if (f_X12_thrown q360.2) = q355.1 then if q355.1 = 0 then gd (ib 0 1 = true) (if (lg_cmp (hla q360.2 236 (cl 0)) q360.1.toInt64) = 0 then f_law xs L n (v4 + 6) q360.2 else some (.inr ())) else f_law xs L n (v4 + 6) q360.2 else some (.inr ()))))))))))) else (if ((xs (cl v4)) &&& 63) = 33 then gd (ib (v4 + 1) L = true) (bnd (f_L_next (xs (cl (v4 + 1))) h) (fun q367 => gd (ib (v4 + 1) L = true) (bnd (f_X12_next (xs (cl (v4 + 1))) q367.2) (fun q369 => if (f_X12_thrown q369.2) = q367.1 then if q367.1 = 0 then gd (ib 0 1 = true) (if (lg_cmp (hla q369.2 236 (cl 0)) q369.1.toInt64) = 0 then f_law xs L n (v4 + 6) q369.2 else some (.inr ())) else f_law xs L n (v4 + 6) q369.2 else some (.inr ()))))) else (if ((xs (cl v4)) &&& 63) = 34 then bnd (f_X11_image h) (fun q375 => bnd (f_X12_image q375) (fun q376 => f_law xs L n (v4 + 6) q376)) else (if ((xs (cl v4)) &&& 63) = 35 then bnd (f_X11_restore h) (fun q378 => bnd (f_X12_restore q378.2) (fun q379 => if (bI q378.1) = (bI q379.1) then f_law xs L n (v4 + 6) q379.2 else some (.inr ()))) else (f_law xs L n (v4 + 6) h)))))))))))))))))))))))))))))))))))))
set_option maxHeartbeats 4000000 in
set_option maxRecDepth 100000 in
theorem cl_law (G : GG) (K : KQ) : ∀ (n : Nat) (v4 : Int32) (h : AH) (q : Nat) (r : AH ⊕ Unit), f_law (gS G) (gN G) n v4 h = some r → q + 8 * n ≤ 20000 → (∀ x, r = .inl x → ∀ q', q' ≤ 20000 → J G mL_law_ 24 20000 q' K 2472 [] [] x) → (∀ x, r = .inr x → False) → J G mL_law_ 24 20000 q K 23 [(0, .ref (gX G)), (1, .ref (ad G 0)), (2, .ref (ad G 193)), (3, .ref (ad G 236)), (4, .int v4)] [] h := by
  intro n
  induction n with
  | zero => intro v4 h q r hL; cases hL
  | succ n ih =>
    intro v4 h q r hL hqn kE kR
    unfold f_law at hL
    refine j_iload 4 dL_law__23 rfl ?_
    refine j_aload_n 0 dL_law__25 rfl ?_
    refine j_scrlen dL_law__26 ?_
    refine j_bipush 6 dL_law__27 (by decide) ?_
    refine j_isub dL_law__29 ?_
    refine j_icmp_gt 2472 dL_law__30 (by decide) (fun z1 => ?_) (fun z1 => ?_)
    · replace hL := (if_pos z1).symm.trans hL
      cases hL
      refine j_sub [] rfl ?_
      exact kE _ rfl _ (by omega)
    · replace hL := (if_neg z1).symm.trans hL
      refine j_aload_n 0 dL_law__33 rfl ?_
      refine j_iload 4 dL_law__34 rfl ?_
      obtain ⟨g2, hL⟩ := gd_ex hL
      refine j_scr (ib_in g2) dL_law__36 ?_
      refine j_bipush 63 dL_law__37 (by decide) ?_
      refine j_iand dL_law__39 ?_
      by_cases z3 : (((gS G) (cl v4)) &&& 63) = 0
      · replace hL := (if_pos z3).symm.trans hL
        refine j_swIn 200 dL_law__40 (by rw [z3]; decide) (by rw [z3]; decide) (by rw [z3]; rfl) (by decide) ?_
        refine j_aload_n 1 dL_law__200 rfl ?_
        refine j_aload_n 0 dL_law__201 rfl ?_
        refine j_iload 4 dL_law__202 rfl ?_
        refine j_iconst 1 dL_law__204 (by decide) ?_
        refine j_iadd dL_law__205 ?_
        obtain ⟨g4, hL⟩ := gd_ex hL
        refine j_scr (ib_in g4) dL_law__206 ?_
        refine j_aload_n 0 dL_law__207 rfl ?_
        refine j_iload 4 dL_law__208 rfl ?_
        refine j_iconst 2 dL_law__210 (by decide) ?_
        refine j_iadd dL_law__211 ?_
        obtain ⟨g5, hL⟩ := gd_ex hL
        refine j_scr (ib_in g5) dL_law__212 ?_
        refine j_aload_n 0 dL_law__213 rfl ?_
        refine j_iload 4 dL_law__214 rfl ?_
        refine j_iconst 3 dL_law__216 (by decide) ?_
        refine j_iadd dL_law__217 ?_
        obtain ⟨g6, hL⟩ := gd_ex hL
        refine j_scr (ib_in g6) dL_law__218 ?_
        refine j_aload_n 0 dL_law__219 rfl ?_
        refine j_iload 4 dL_law__220 rfl ?_
        refine j_iconst 4 dL_law__222 (by decide) ?_
        refine j_iadd dL_law__223 ?_
        obtain ⟨g7, hL⟩ := gd_ex hL
        refine j_scr (ib_in g7) dL_law__224 ?_
        refine j_aload_n 0 dL_law__225 rfl ?_
        refine j_iload 4 dL_law__226 rfl ?_
        refine j_iconst 5 dL_law__228 (by decide) ?_
        refine j_iadd dL_law__229 ?_
        obtain ⟨g8, hL⟩ := gd_ex hL
        refine j_scr (ib_in g8) dL_law__230 ?_
        obtain ⟨q9, hq9, hL⟩ := bnd_ex hL
        refine j_callVi (c_X11_feed G ((gS G) (cl (v4 + 1))) ((gS G) (cl (v4 + 2))) ((gS G) (cl (v4 + 3))) ((gS G) (cl (v4 + 4))) ((gS G) (cl (v4 + 5))) h _ hq9) cv_RL_113 rfl sh_0 (by decide) rfl (by decide) rfl rfl (Nat.le_of_ble_eq_true rfl) dL_law__231 (by omega) ?_
        refine j_aload_n 2 dL_law__234 rfl ?_
        refine j_aload_n 0 dL_law__235 rfl ?_
        refine j_iload 4 dL_law__236 rfl ?_
        refine j_iconst 1 dL_law__238 (by decide) ?_
        refine j_iadd dL_law__239 ?_
        obtain ⟨g10, hL⟩ := gd_ex hL
        refine j_scr (ib_in g10) dL_law__240 ?_
        refine j_aload_n 0 dL_law__241 rfl ?_
        refine j_iload 4 dL_law__242 rfl ?_
        refine j_iconst 2 dL_law__244 (by decide) ?_
        refine j_iadd dL_law__245 ?_
        obtain ⟨g11, hL⟩ := gd_ex hL
        refine j_scr (ib_in g11) dL_law__246 ?_
        refine j_aload_n 0 dL_law__247 rfl ?_
        refine j_iload 4 dL_law__248 rfl ?_
        refine j_iconst 3 dL_law__250 (by decide) ?_
        refine j_iadd dL_law__251 ?_
        obtain ⟨g12, hL⟩ := gd_ex hL
        refine j_scr (ib_in g12) dL_law__252 ?_
        refine j_aload_n 0 dL_law__253 rfl ?_
        refine j_iload 4 dL_law__254 rfl ?_
        refine j_iconst 4 dL_law__256 (by decide) ?_
        refine j_iadd dL_law__257 ?_
        obtain ⟨g13, hL⟩ := gd_ex hL
        refine j_scr (ib_in g13) dL_law__258 ?_
        refine j_aload_n 0 dL_law__259 rfl ?_
        refine j_iload 4 dL_law__260 rfl ?_
        refine j_iconst 5 dL_law__262 (by decide) ?_
        refine j_iadd dL_law__263 ?_
        obtain ⟨g14, hL⟩ := gd_ex hL
        refine j_scr (ib_in g14) dL_law__264 ?_
        obtain ⟨q15, hq15, hL⟩ := bnd_ex hL
        refine j_callVi (c_X12_feed G ((gS G) (cl (v4 + 1))) ((gS G) (cl (v4 + 2))) ((gS G) (cl (v4 + 3))) ((gS G) (cl (v4 + 4))) ((gS G) (cl (v4 + 5))) q9.2 _ hq15) cv_RL_117 rfl sh_193 (by decide) rfl (by decide) rfl rfl (Nat.le_of_ble_eq_true rfl) dL_law__265 (by omega) ?_
        refine j_icmp_eq 2466 dL_law__268 (by decide) (fun z16 => ?_) (fun z16 => ?_)
        · replace hL := (if_pos z16).symm.trans hL
          refine j_iinc (lv' := [(4, .int (v4 + 6)), (0, .ref (gX G)), (1, .ref (ad G 0)), (2, .ref (ad G 193)), (3, .ref (ad G 236))]) 4 dL_law__2466 rfl rfl (by decide) rfl ?_
          refine j_goto 23 dL_law__2469 (by decide) ?_
          refine j_sub [1, 2, 3, 4, 0] rfl ?_
          refine j_widen (q' := q + 8) (by omega) ?_
          exact ih (v4 + 6) q15.2 (q + 8) r hL (by omega) kE kR
        · replace hL := (if_neg z16).symm.trans hL
          refine j_iconst 0 dL_law__271 (by decide) ?_
          cases hL
          exact (kR _ rfl).elim
      · replace hL := (if_neg z3).symm.trans hL
        by_cases z17 : (((gS G) (cl v4)) &&& 63) = 1
        · replace hL := (if_pos z17).symm.trans hL
          refine j_swIn 273 dL_law__40 (by rw [z17]; decide) (by rw [z17]; decide) (by rw [z17]; rfl) (by decide) ?_
          refine j_aload_n 1 dL_law__273 rfl ?_
          refine j_aload_n 0 dL_law__274 rfl ?_
          refine j_iload 4 dL_law__275 rfl ?_
          refine j_iconst 1 dL_law__277 (by decide) ?_
          refine j_iadd dL_law__278 ?_
          obtain ⟨g18, hL⟩ := gd_ex hL
          refine j_scr (ib_in g18) dL_law__279 ?_
          refine j_aload_n 0 dL_law__280 rfl ?_
          refine j_iload 4 dL_law__281 rfl ?_
          refine j_iconst 2 dL_law__283 (by decide) ?_
          refine j_iadd dL_law__284 ?_
          obtain ⟨g19, hL⟩ := gd_ex hL
          refine j_scr (ib_in g19) dL_law__285 ?_
          refine j_aload_n 3 dL_law__286 rfl ?_
          obtain ⟨q20, hq20, hL⟩ := bnd_ex hL
          refine j_callW (c_L_book G ((gS G) (cl (v4 + 1))) ((gS G) (cl (v4 + 2))) h _ hq20) ch_RL_118 rfl (by decide) rfl rfl (Nat.le_of_ble_eq_true rfl) dL_law__287 (by omega) ?_
          refine j_istore (lv' := [(5, .int q20.1), (0, .ref (gX G)), (1, .ref (ad G 0)), (2, .ref (ad G 193)), (3, .ref (ad G 236)), (4, .int v4)]) dL_law__290 (by decide) rfl ?_
          refine j_aload_n 3 dL_law__292 rfl ?_
          refine j_aload_n 1 dL_law__293 rfl ?_
          refine j_iload 5 dL_law__294 rfl ?_
          refine j_iconst 1 dL_law__296 (by decide) ?_
          refine j_iadd dL_law__297 ?_
          obtain ⟨g21, hL⟩ := gd_ex hL
          refine j_scr (ib_in g21) dL_law__298 ?_
          refine j_aload_n 1 dL_law__299 rfl ?_
          refine j_iload 5 dL_law__300 rfl ?_
          refine j_iconst 2 dL_law__302 (by decide) ?_
          refine j_iadd dL_law__303 ?_
          obtain ⟨g22, hL⟩ := gd_ex hL
          refine j_scr (ib_in g22) dL_law__304 ?_
          obtain ⟨q23, hq23, hL⟩ := bnd_ex hL
          refine j_callVi (c_X12_book G ((gS G) (cl (v4 + 1))) ((gS G) (cl (v4 + 2))) q20.2 _ hq23) cv_RL_123 rfl sh_193 (by decide) rfl (by decide) rfl rfl (Nat.le_of_ble_eq_true rfl) dL_law__305 (by omega) ?_
          refine j_istore (lv' := [(6, .int q23.1), (5, .int q20.1), (0, .ref (gX G)), (1, .ref (ad G 0)), (2, .ref (ad G 193)), (3, .ref (ad G 236)), (4, .int v4)]) dL_law__308 (by decide) rfl ?_
          refine j_aload_n 4 dL_law__310 rfl ?_
          refine j_callVi (c_X12_thrown G  q23.2) cv_RL_124 rfl sh_193 (by decide) rfl (by decide) rfl rfl (Nat.le_of_ble_eq_true rfl) dL_law__311 (by omega) ?_
          refine j_iload 1 dL_law__314 rfl ?_
          refine j_icmp_eq 321 dL_law__316 (by decide) (fun z24 => ?_) (fun z24 => ?_)
          · replace hL := (if_pos z24).symm.trans hL
            refine j_iload 1 dL_law__321 rfl ?_
            refine j_if_ne 338 dL_law__323 (by decide) (fun z25 => ?_) (fun z25 => ?_)
            · replace hL := (if_neg z25).symm.trans hL
              refine j_goto 2466 dL_law__338 (by decide) ?_
              refine j_iinc (lv' := [(4, .int (v4 + 6)), (6, .int q23.1), (5, .int q20.1), (0, .ref (gX G)), (1, .ref (ad G 0)), (2, .ref (ad G 193)), (3, .ref (ad G 236))]) 6 dL_law__2466 rfl rfl (by decide) rfl ?_
              refine j_goto 23 dL_law__2469 (by decide) ?_
              refine j_sub [3, 4, 5, 6, 0] rfl ?_
              refine j_widen (q' := q + 8) (by omega) ?_
              exact ih (v4 + 6) q23.2 (q + 8) r hL (by omega) kE kR
            · replace hL := (if_pos z25).symm.trans hL
              refine j_aload_n 5 dL_law__326 rfl ?_
              refine j_iconst 0 dL_law__327 (by decide) ?_
              obtain ⟨g26, hL⟩ := gd_ex hL
              refine j_lald sh_236 (ib_in g26) dL_law__328 ?_
              refine j_iload 0 dL_law__329 rfl ?_
              refine j_i2l dL_law__331 ?_
              refine j_lcmp dL_law__332 ?_
              refine j_if_eq 338 dL_law__333 (by decide) (fun z27 => ?_) (fun z27 => ?_)
              · replace hL := (if_pos z27).symm.trans hL
                refine j_goto 2466 dL_law__338 (by decide) ?_
                refine j_iinc (lv' := [(4, .int (v4 + 6)), (6, .int q23.1), (5, .int q20.1), (0, .ref (gX G)), (1, .ref (ad G 0)), (2, .ref (ad G 193)), (3, .ref (ad G 236))]) 6 dL_law__2466 rfl rfl (by decide) rfl ?_
                refine j_goto 23 dL_law__2469 (by decide) ?_
                refine j_sub [3, 4, 5, 6, 0] rfl ?_
                refine j_widen (q' := q + 8) (by omega) ?_
                exact ih (v4 + 6) q23.2 (q + 8) r hL (by omega) kE kR
              · replace hL := (if_neg z27).symm.trans hL
                refine j_iconst 0 dL_law__336 (by decide) ?_
                cases hL
                exact (kR _ rfl).elim
          · replace hL := (if_neg z24).symm.trans hL
            refine j_iconst 0 dL_law__319 (by decide) ?_
            cases hL
            exact (kR _ rfl).elim
        · replace hL := (if_neg z17).symm.trans hL
          by_cases z28 : (((gS G) (cl v4)) &&& 63) = 2
          · replace hL := (if_pos z28).symm.trans hL
            refine j_swIn 341 dL_law__40 (by rw [z28]; decide) (by rw [z28]; decide) (by rw [z28]; rfl) (by decide) ?_
            refine j_aload_n 1 dL_law__341 rfl ?_
            refine j_aload_n 0 dL_law__342 rfl ?_
            refine j_iload 4 dL_law__343 rfl ?_
            refine j_iconst 1 dL_law__345 (by decide) ?_
            refine j_iadd dL_law__346 ?_
            obtain ⟨g29, hL⟩ := gd_ex hL
            refine j_scr (ib_in g29) dL_law__347 ?_
            refine j_aload_n 3 dL_law__348 rfl ?_
            obtain ⟨q30, hq30, hL⟩ := bnd_ex hL
            refine j_callW (c_L_law G ((gS G) (cl (v4 + 1))) h _ hq30) ch_RL_128 rfl (by decide) rfl rfl (Nat.le_of_ble_eq_true rfl) dL_law__349 (by omega) ?_
            refine j_istore (lv' := [(5, .int q30.1), (0, .ref (gX G)), (1, .ref (ad G 0)), (2, .ref (ad G 193)), (3, .ref (ad G 236)), (4, .int v4)]) dL_law__352 (by decide) rfl ?_
            refine j_aload_n 3 dL_law__354 rfl ?_
            refine j_aload_n 1 dL_law__355 rfl ?_
            refine j_iload 5 dL_law__356 rfl ?_
            refine j_iconst 1 dL_law__358 (by decide) ?_
            refine j_iadd dL_law__359 ?_
            obtain ⟨g31, hL⟩ := gd_ex hL
            refine j_scr (ib_in g31) dL_law__360 ?_
            obtain ⟨q32, hq32, hL⟩ := bnd_ex hL
            refine j_callVi (c_X12_law G ((gS G) (cl (v4 + 1))) q30.2 _ hq32) cv_RL_131 rfl sh_193 (by decide) rfl (by decide) rfl rfl (Nat.le_of_ble_eq_true rfl) dL_law__361 (by omega) ?_
            refine j_istore (lv' := [(6, .int q32.1), (5, .int q30.1), (0, .ref (gX G)), (1, .ref (ad G 0)), (2, .ref (ad G 193)), (3, .ref (ad G 236)), (4, .int v4)]) dL_law__364 (by decide) rfl ?_
            refine j_aload_n 4 dL_law__366 rfl ?_
            refine j_callVi (c_X12_thrown G  q32.2) cv_RL_124 rfl sh_193 (by decide) rfl (by decide) rfl rfl (Nat.le_of_ble_eq_true rfl) dL_law__367 (by omega) ?_
            refine j_iload 1 dL_law__370 rfl ?_
            refine j_icmp_eq 377 dL_law__372 (by decide) (fun z33 => ?_) (fun z33 => ?_)
            · replace hL := (if_pos z33).symm.trans hL
              refine j_iload 1 dL_law__377 rfl ?_
              refine j_if_ne 394 dL_law__379 (by decide) (fun z34 => ?_) (fun z34 => ?_)
              · replace hL := (if_neg z34).symm.trans hL
                refine j_goto 2466 dL_law__394 (by decide) ?_
                refine j_iinc (lv' := [(4, .int (v4 + 6)), (6, .int q32.1), (5, .int q30.1), (0, .ref (gX G)), (1, .ref (ad G 0)), (2, .ref (ad G 193)), (3, .ref (ad G 236))]) 6 dL_law__2466 rfl rfl (by decide) rfl ?_
                refine j_goto 23 dL_law__2469 (by decide) ?_
                refine j_sub [3, 4, 5, 6, 0] rfl ?_
                refine j_widen (q' := q + 8) (by omega) ?_
                exact ih (v4 + 6) q32.2 (q + 8) r hL (by omega) kE kR
              · replace hL := (if_pos z34).symm.trans hL
                refine j_aload_n 5 dL_law__382 rfl ?_
                refine j_iconst 0 dL_law__383 (by decide) ?_
                obtain ⟨g35, hL⟩ := gd_ex hL
                refine j_lald sh_236 (ib_in g35) dL_law__384 ?_
                refine j_iload 0 dL_law__385 rfl ?_
                refine j_i2l dL_law__387 ?_
                refine j_lcmp dL_law__388 ?_
                refine j_if_eq 394 dL_law__389 (by decide) (fun z36 => ?_) (fun z36 => ?_)
                · replace hL := (if_pos z36).symm.trans hL
                  refine j_goto 2466 dL_law__394 (by decide) ?_
                  refine j_iinc (lv' := [(4, .int (v4 + 6)), (6, .int q32.1), (5, .int q30.1), (0, .ref (gX G)), (1, .ref (ad G 0)), (2, .ref (ad G 193)), (3, .ref (ad G 236))]) 6 dL_law__2466 rfl rfl (by decide) rfl ?_
                  refine j_goto 23 dL_law__2469 (by decide) ?_
                  refine j_sub [3, 4, 5, 6, 0] rfl ?_
                  refine j_widen (q' := q + 8) (by omega) ?_
                  exact ih (v4 + 6) q32.2 (q + 8) r hL (by omega) kE kR
                · replace hL := (if_neg z36).symm.trans hL
                  refine j_iconst 0 dL_law__392 (by decide) ?_
                  cases hL
                  exact (kR _ rfl).elim
            · replace hL := (if_neg z33).symm.trans hL
              refine j_iconst 0 dL_law__375 (by decide) ?_
              cases hL
              exact (kR _ rfl).elim
          · replace hL := (if_neg z28).symm.trans hL
            by_cases z37 : (((gS G) (cl v4)) &&& 63) = 3
            · replace hL := (if_pos z37).symm.trans hL
              refine j_swIn 397 dL_law__40 (by rw [z37]; decide) (by rw [z37]; decide) (by rw [z37]; rfl) (by decide) ?_
              refine j_aload_n 1 dL_law__397 rfl ?_
              refine j_aload_n 0 dL_law__398 rfl ?_
              refine j_iload 4 dL_law__399 rfl ?_
              refine j_iconst 1 dL_law__401 (by decide) ?_
              refine j_iadd dL_law__402 ?_
              obtain ⟨g38, hL⟩ := gd_ex hL
              refine j_scr (ib_in g38) dL_law__403 ?_
              refine j_aload_n 0 dL_law__404 rfl ?_
              refine j_iload 4 dL_law__405 rfl ?_
              refine j_iconst 2 dL_law__407 (by decide) ?_
              refine j_iadd dL_law__408 ?_
              obtain ⟨g39, hL⟩ := gd_ex hL
              refine j_scr (ib_in g39) dL_law__409 ?_
              refine j_aload_n 3 dL_law__410 rfl ?_
              obtain ⟨q40, hq40, hL⟩ := bnd_ex hL
              refine j_callW (c_L_way G ((gS G) (cl (v4 + 1))) ((gS G) (cl (v4 + 2))) h _ hq40) ch_RL_132 rfl (by decide) rfl rfl (Nat.le_of_ble_eq_true rfl) dL_law__411 (by omega) ?_
              refine j_istore (lv' := [(5, .int q40.1), (0, .ref (gX G)), (1, .ref (ad G 0)), (2, .ref (ad G 193)), (3, .ref (ad G 236)), (4, .int v4)]) dL_law__414 (by decide) rfl ?_
              refine j_aload_n 3 dL_law__416 rfl ?_
              refine j_aload_n 1 dL_law__417 rfl ?_
              refine j_iload 5 dL_law__418 rfl ?_
              refine j_iconst 1 dL_law__420 (by decide) ?_
              refine j_iadd dL_law__421 ?_
              obtain ⟨g41, hL⟩ := gd_ex hL
              refine j_scr (ib_in g41) dL_law__422 ?_
              refine j_aload_n 1 dL_law__423 rfl ?_
              refine j_iload 5 dL_law__424 rfl ?_
              refine j_iconst 2 dL_law__426 (by decide) ?_
              refine j_iadd dL_law__427 ?_
              obtain ⟨g42, hL⟩ := gd_ex hL
              refine j_scr (ib_in g42) dL_law__428 ?_
              obtain ⟨q43, hq43, hL⟩ := bnd_ex hL
              refine j_callVi (c_X12_way G ((gS G) (cl (v4 + 1))) ((gS G) (cl (v4 + 2))) q40.2 _ hq43) cv_RL_134 rfl sh_193 (by decide) rfl (by decide) rfl rfl (Nat.le_of_ble_eq_true rfl) dL_law__429 (by omega) ?_
              refine j_istore (lv' := [(6, .int q43.1), (5, .int q40.1), (0, .ref (gX G)), (1, .ref (ad G 0)), (2, .ref (ad G 193)), (3, .ref (ad G 236)), (4, .int v4)]) dL_law__432 (by decide) rfl ?_
              refine j_aload_n 4 dL_law__434 rfl ?_
              refine j_callVi (c_X12_thrown G  q43.2) cv_RL_124 rfl sh_193 (by decide) rfl (by decide) rfl rfl (Nat.le_of_ble_eq_true rfl) dL_law__435 (by omega) ?_
              refine j_iload 1 dL_law__438 rfl ?_
              refine j_icmp_eq 445 dL_law__440 (by decide) (fun z44 => ?_) (fun z44 => ?_)
              · replace hL := (if_pos z44).symm.trans hL
                refine j_iload 1 dL_law__445 rfl ?_
                refine j_if_ne 462 dL_law__447 (by decide) (fun z45 => ?_) (fun z45 => ?_)
                · replace hL := (if_neg z45).symm.trans hL
                  refine j_goto 2466 dL_law__462 (by decide) ?_
                  refine j_iinc (lv' := [(4, .int (v4 + 6)), (6, .int q43.1), (5, .int q40.1), (0, .ref (gX G)), (1, .ref (ad G 0)), (2, .ref (ad G 193)), (3, .ref (ad G 236))]) 6 dL_law__2466 rfl rfl (by decide) rfl ?_
                  refine j_goto 23 dL_law__2469 (by decide) ?_
                  refine j_sub [3, 4, 5, 6, 0] rfl ?_
                  refine j_widen (q' := q + 8) (by omega) ?_
                  exact ih (v4 + 6) q43.2 (q + 8) r hL (by omega) kE kR
                · replace hL := (if_pos z45).symm.trans hL
                  refine j_aload_n 5 dL_law__450 rfl ?_
                  refine j_iconst 0 dL_law__451 (by decide) ?_
                  obtain ⟨g46, hL⟩ := gd_ex hL
                  refine j_lald sh_236 (ib_in g46) dL_law__452 ?_
                  refine j_iload 0 dL_law__453 rfl ?_
                  refine j_i2l dL_law__455 ?_
                  refine j_lcmp dL_law__456 ?_
                  refine j_if_eq 462 dL_law__457 (by decide) (fun z47 => ?_) (fun z47 => ?_)
                  · replace hL := (if_pos z47).symm.trans hL
                    refine j_goto 2466 dL_law__462 (by decide) ?_
                    refine j_iinc (lv' := [(4, .int (v4 + 6)), (6, .int q43.1), (5, .int q40.1), (0, .ref (gX G)), (1, .ref (ad G 0)), (2, .ref (ad G 193)), (3, .ref (ad G 236))]) 6 dL_law__2466 rfl rfl (by decide) rfl ?_
                    refine j_goto 23 dL_law__2469 (by decide) ?_
                    refine j_sub [3, 4, 5, 6, 0] rfl ?_
                    refine j_widen (q' := q + 8) (by omega) ?_
                    exact ih (v4 + 6) q43.2 (q + 8) r hL (by omega) kE kR
                  · replace hL := (if_neg z47).symm.trans hL
                    refine j_iconst 0 dL_law__460 (by decide) ?_
                    cases hL
                    exact (kR _ rfl).elim
              · replace hL := (if_neg z44).symm.trans hL
                refine j_iconst 0 dL_law__443 (by decide) ?_
                cases hL
                exact (kR _ rfl).elim
            · replace hL := (if_neg z37).symm.trans hL
              by_cases z48 : (((gS G) (cl v4)) &&& 63) = 4
              · replace hL := (if_pos z48).symm.trans hL
                refine j_swIn 465 dL_law__40 (by rw [z48]; decide) (by rw [z48]; decide) (by rw [z48]; rfl) (by decide) ?_
                refine j_aload_n 1 dL_law__465 rfl ?_
                refine j_callVi (c_X11_fault G  h) cv_RL_135 rfl sh_0 (by decide) rfl (by decide) rfl rfl (Nat.le_of_ble_eq_true rfl) dL_law__466 (by omega) ?_
                refine j_aload_n 2 dL_law__469 rfl ?_
                obtain ⟨q49, hq49, hL⟩ := bnd_ex hL
                refine j_callVi (c_X12_fault G  h _ hq49) cv_RL_138 rfl sh_193 (by decide) rfl (by decide) rfl rfl (Nat.le_of_ble_eq_true rfl) dL_law__470 (by omega) ?_
                refine j_icmp_eq 2466 dL_law__473 (by decide) (fun z50 => ?_) (fun z50 => ?_)
                · replace hL := (if_pos z50).symm.trans hL
                  refine j_iinc (lv' := [(4, .int (v4 + 6)), (0, .ref (gX G)), (1, .ref (ad G 0)), (2, .ref (ad G 193)), (3, .ref (ad G 236))]) 4 dL_law__2466 rfl rfl (by decide) rfl ?_
                  refine j_goto 23 dL_law__2469 (by decide) ?_
                  refine j_sub [1, 2, 3, 4, 0] rfl ?_
                  refine j_widen (q' := q + 8) (by omega) ?_
                  exact ih (v4 + 6) q49.2 (q + 8) r hL (by omega) kE kR
                · replace hL := (if_neg z50).symm.trans hL
                  refine j_iconst 0 dL_law__476 (by decide) ?_
                  cases hL
                  exact (kR _ rfl).elim
              · replace hL := (if_neg z48).symm.trans hL
                by_cases z51 : (((gS G) (cl v4)) &&& 63) = 5
                · replace hL := (if_pos z51).symm.trans hL
                  refine j_swIn 478 dL_law__40 (by rw [z51]; decide) (by rw [z51]; decide) (by rw [z51]; rfl) (by decide) ?_
                  refine j_aload_n 1 dL_law__478 rfl ?_
                  refine j_aload_n 0 dL_law__479 rfl ?_
                  refine j_iload 4 dL_law__480 rfl ?_
                  refine j_iconst 1 dL_law__482 (by decide) ?_
                  refine j_iadd dL_law__483 ?_
                  obtain ⟨g52, hL⟩ := gd_ex hL
                  refine j_scr (ib_in g52) dL_law__484 ?_
                  refine j_aload_n 3 dL_law__485 rfl ?_
                  obtain ⟨q53, hq53, hL⟩ := bnd_ex hL
                  refine j_callW (c_L_count G ((gS G) (cl (v4 + 1))) h _ hq53) ch_RL_139 rfl (by decide) rfl rfl (Nat.le_of_ble_eq_true rfl) dL_law__486 (by omega) ?_
                  refine j_istore (lv' := [(5, .int q53.1), (0, .ref (gX G)), (1, .ref (ad G 0)), (2, .ref (ad G 193)), (3, .ref (ad G 236)), (4, .int v4)]) dL_law__489 (by decide) rfl ?_
                  refine j_aload_n 3 dL_law__491 rfl ?_
                  refine j_aload_n 1 dL_law__492 rfl ?_
                  refine j_iload 5 dL_law__493 rfl ?_
                  refine j_iconst 1 dL_law__495 (by decide) ?_
                  refine j_iadd dL_law__496 ?_
                  obtain ⟨g54, hL⟩ := gd_ex hL
                  refine j_scr (ib_in g54) dL_law__497 ?_
                  obtain ⟨q55, hq55, hL⟩ := bnd_ex hL
                  refine j_callVi (c_X12_count G ((gS G) (cl (v4 + 1))) q53.2 _ hq55) cv_RL_141 rfl sh_193 (by decide) rfl (by decide) rfl rfl (Nat.le_of_ble_eq_true rfl) dL_law__498 (by omega) ?_
                  refine j_istore (lv' := [(6, .int q55.1), (5, .int q53.1), (0, .ref (gX G)), (1, .ref (ad G 0)), (2, .ref (ad G 193)), (3, .ref (ad G 236)), (4, .int v4)]) dL_law__501 (by decide) rfl ?_
                  refine j_aload_n 4 dL_law__503 rfl ?_
                  refine j_callVi (c_X12_thrown G  q55.2) cv_RL_124 rfl sh_193 (by decide) rfl (by decide) rfl rfl (Nat.le_of_ble_eq_true rfl) dL_law__504 (by omega) ?_
                  refine j_iload 1 dL_law__507 rfl ?_
                  refine j_icmp_eq 514 dL_law__509 (by decide) (fun z56 => ?_) (fun z56 => ?_)
                  · replace hL := (if_pos z56).symm.trans hL
                    refine j_iload 1 dL_law__514 rfl ?_
                    refine j_if_ne 531 dL_law__516 (by decide) (fun z57 => ?_) (fun z57 => ?_)
                    · replace hL := (if_neg z57).symm.trans hL
                      refine j_goto 2466 dL_law__531 (by decide) ?_
                      refine j_iinc (lv' := [(4, .int (v4 + 6)), (6, .int q55.1), (5, .int q53.1), (0, .ref (gX G)), (1, .ref (ad G 0)), (2, .ref (ad G 193)), (3, .ref (ad G 236))]) 6 dL_law__2466 rfl rfl (by decide) rfl ?_
                      refine j_goto 23 dL_law__2469 (by decide) ?_
                      refine j_sub [3, 4, 5, 6, 0] rfl ?_
                      refine j_widen (q' := q + 8) (by omega) ?_
                      exact ih (v4 + 6) q55.2 (q + 8) r hL (by omega) kE kR
                    · replace hL := (if_pos z57).symm.trans hL
                      refine j_aload_n 5 dL_law__519 rfl ?_
                      refine j_iconst 0 dL_law__520 (by decide) ?_
                      obtain ⟨g58, hL⟩ := gd_ex hL
                      refine j_lald sh_236 (ib_in g58) dL_law__521 ?_
                      refine j_iload 0 dL_law__522 rfl ?_
                      refine j_i2l dL_law__524 ?_
                      refine j_lcmp dL_law__525 ?_
                      refine j_if_eq 531 dL_law__526 (by decide) (fun z59 => ?_) (fun z59 => ?_)
                      · replace hL := (if_pos z59).symm.trans hL
                        refine j_goto 2466 dL_law__531 (by decide) ?_
                        refine j_iinc (lv' := [(4, .int (v4 + 6)), (6, .int q55.1), (5, .int q53.1), (0, .ref (gX G)), (1, .ref (ad G 0)), (2, .ref (ad G 193)), (3, .ref (ad G 236))]) 6 dL_law__2466 rfl rfl (by decide) rfl ?_
                        refine j_goto 23 dL_law__2469 (by decide) ?_
                        refine j_sub [3, 4, 5, 6, 0] rfl ?_
                        refine j_widen (q' := q + 8) (by omega) ?_
                        exact ih (v4 + 6) q55.2 (q + 8) r hL (by omega) kE kR
                      · replace hL := (if_neg z59).symm.trans hL
                        refine j_iconst 0 dL_law__529 (by decide) ?_
                        cases hL
                        exact (kR _ rfl).elim
                  · replace hL := (if_neg z56).symm.trans hL
                    refine j_iconst 0 dL_law__512 (by decide) ?_
                    cases hL
                    exact (kR _ rfl).elim
                · replace hL := (if_neg z51).symm.trans hL
                  by_cases z60 : (((gS G) (cl v4)) &&& 63) = 6
                  · replace hL := (if_pos z60).symm.trans hL
                    refine j_swIn 534 dL_law__40 (by rw [z60]; decide) (by rw [z60]; decide) (by rw [z60]; rfl) (by decide) ?_
                    refine j_aload_n 1 dL_law__534 rfl ?_
                    refine j_aload_n 0 dL_law__535 rfl ?_
                    refine j_iload 4 dL_law__536 rfl ?_
                    refine j_iconst 1 dL_law__538 (by decide) ?_
                    refine j_iadd dL_law__539 ?_
                    obtain ⟨g61, hL⟩ := gd_ex hL
                    refine j_scr (ib_in g61) dL_law__540 ?_
                    refine j_aload_n 0 dL_law__541 rfl ?_
                    refine j_iload 4 dL_law__542 rfl ?_
                    refine j_iconst 2 dL_law__544 (by decide) ?_
                    refine j_iadd dL_law__545 ?_
                    obtain ⟨g62, hL⟩ := gd_ex hL
                    refine j_scr (ib_in g62) dL_law__546 ?_
                    refine j_aload_n 3 dL_law__547 rfl ?_
                    obtain ⟨q63, hq63, hL⟩ := bnd_ex hL
                    refine j_callW (c_L_about G ((gS G) (cl (v4 + 1))) ((gS G) (cl (v4 + 2))) h _ hq63) ch_RL_142 rfl (by decide) rfl rfl (Nat.le_of_ble_eq_true rfl) dL_law__548 (by omega) ?_
                    refine j_istore (lv' := [(5, .int q63.1), (0, .ref (gX G)), (1, .ref (ad G 0)), (2, .ref (ad G 193)), (3, .ref (ad G 236)), (4, .int v4)]) dL_law__551 (by decide) rfl ?_
                    refine j_aload_n 3 dL_law__553 rfl ?_
                    refine j_aload_n 1 dL_law__554 rfl ?_
                    refine j_iload 5 dL_law__555 rfl ?_
                    refine j_iconst 1 dL_law__557 (by decide) ?_
                    refine j_iadd dL_law__558 ?_
                    obtain ⟨g64, hL⟩ := gd_ex hL
                    refine j_scr (ib_in g64) dL_law__559 ?_
                    refine j_aload_n 1 dL_law__560 rfl ?_
                    refine j_iload 5 dL_law__561 rfl ?_
                    refine j_iconst 2 dL_law__563 (by decide) ?_
                    refine j_iadd dL_law__564 ?_
                    obtain ⟨g65, hL⟩ := gd_ex hL
                    refine j_scr (ib_in g65) dL_law__565 ?_
                    obtain ⟨q66, hq66, hL⟩ := bnd_ex hL
                    refine j_callVi (c_X12_about G ((gS G) (cl (v4 + 1))) ((gS G) (cl (v4 + 2))) q63.2 _ hq66) cv_RL_144 rfl sh_193 (by decide) rfl (by decide) rfl rfl (Nat.le_of_ble_eq_true rfl) dL_law__566 (by omega) ?_
                    refine j_istore (lv' := [(6, .int q66.1), (5, .int q63.1), (0, .ref (gX G)), (1, .ref (ad G 0)), (2, .ref (ad G 193)), (3, .ref (ad G 236)), (4, .int v4)]) dL_law__569 (by decide) rfl ?_
                    refine j_aload_n 4 dL_law__571 rfl ?_
                    refine j_callVi (c_X12_thrown G  q66.2) cv_RL_124 rfl sh_193 (by decide) rfl (by decide) rfl rfl (Nat.le_of_ble_eq_true rfl) dL_law__572 (by omega) ?_
                    refine j_iload 1 dL_law__575 rfl ?_
                    refine j_icmp_eq 582 dL_law__577 (by decide) (fun z67 => ?_) (fun z67 => ?_)
                    · replace hL := (if_pos z67).symm.trans hL
                      refine j_iload 1 dL_law__582 rfl ?_
                      refine j_if_ne 599 dL_law__584 (by decide) (fun z68 => ?_) (fun z68 => ?_)
                      · replace hL := (if_neg z68).symm.trans hL
                        refine j_goto 2466 dL_law__599 (by decide) ?_
                        refine j_iinc (lv' := [(4, .int (v4 + 6)), (6, .int q66.1), (5, .int q63.1), (0, .ref (gX G)), (1, .ref (ad G 0)), (2, .ref (ad G 193)), (3, .ref (ad G 236))]) 6 dL_law__2466 rfl rfl (by decide) rfl ?_
                        refine j_goto 23 dL_law__2469 (by decide) ?_
                        refine j_sub [3, 4, 5, 6, 0] rfl ?_
                        refine j_widen (q' := q + 8) (by omega) ?_
                        exact ih (v4 + 6) q66.2 (q + 8) r hL (by omega) kE kR
                      · replace hL := (if_pos z68).symm.trans hL
                        refine j_aload_n 5 dL_law__587 rfl ?_
                        refine j_iconst 0 dL_law__588 (by decide) ?_
                        obtain ⟨g69, hL⟩ := gd_ex hL
                        refine j_lald sh_236 (ib_in g69) dL_law__589 ?_
                        refine j_iload 0 dL_law__590 rfl ?_
                        refine j_i2l dL_law__592 ?_
                        refine j_lcmp dL_law__593 ?_
                        refine j_if_eq 599 dL_law__594 (by decide) (fun z70 => ?_) (fun z70 => ?_)
                        · replace hL := (if_pos z70).symm.trans hL
                          refine j_goto 2466 dL_law__599 (by decide) ?_
                          refine j_iinc (lv' := [(4, .int (v4 + 6)), (6, .int q66.1), (5, .int q63.1), (0, .ref (gX G)), (1, .ref (ad G 0)), (2, .ref (ad G 193)), (3, .ref (ad G 236))]) 6 dL_law__2466 rfl rfl (by decide) rfl ?_
                          refine j_goto 23 dL_law__2469 (by decide) ?_
                          refine j_sub [3, 4, 5, 6, 0] rfl ?_
                          refine j_widen (q' := q + 8) (by omega) ?_
                          exact ih (v4 + 6) q66.2 (q + 8) r hL (by omega) kE kR
                        · replace hL := (if_neg z70).symm.trans hL
                          refine j_iconst 0 dL_law__597 (by decide) ?_
                          cases hL
                          exact (kR _ rfl).elim
                    · replace hL := (if_neg z67).symm.trans hL
                      refine j_iconst 0 dL_law__580 (by decide) ?_
                      cases hL
                      exact (kR _ rfl).elim
                  · replace hL := (if_neg z60).symm.trans hL
                    by_cases z71 : (((gS G) (cl v4)) &&& 63) = 7
                    · replace hL := (if_pos z71).symm.trans hL
                      refine j_swIn 602 dL_law__40 (by rw [z71]; decide) (by rw [z71]; decide) (by rw [z71]; rfl) (by decide) ?_
                      refine j_aload_n 1 dL_law__602 rfl ?_
                      refine j_aload_n 0 dL_law__603 rfl ?_
                      refine j_iload 4 dL_law__604 rfl ?_
                      refine j_iconst 1 dL_law__606 (by decide) ?_
                      refine j_iadd dL_law__607 ?_
                      obtain ⟨g72, hL⟩ := gd_ex hL
                      refine j_scr (ib_in g72) dL_law__608 ?_
                      refine j_aload_n 0 dL_law__609 rfl ?_
                      refine j_iload 4 dL_law__610 rfl ?_
                      refine j_iconst 2 dL_law__612 (by decide) ?_
                      refine j_iadd dL_law__613 ?_
                      obtain ⟨g73, hL⟩ := gd_ex hL
                      refine j_scr (ib_in g73) dL_law__614 ?_
                      refine j_aload_n 0 dL_law__615 rfl ?_
                      refine j_iload 4 dL_law__616 rfl ?_
                      refine j_iconst 3 dL_law__618 (by decide) ?_
                      refine j_iadd dL_law__619 ?_
                      obtain ⟨g74, hL⟩ := gd_ex hL
                      refine j_scr (ib_in g74) dL_law__620 ?_
                      refine j_aload_n 3 dL_law__621 rfl ?_
                      obtain ⟨q75, hq75, hL⟩ := bnd_ex hL
                      refine j_callW (c_L_leaf G ((gS G) (cl (v4 + 1))) ((gS G) (cl (v4 + 2))) ((gS G) (cl (v4 + 3))) h _ hq75) ch_RL_145 rfl (by decide) rfl rfl (Nat.le_of_ble_eq_true rfl) dL_law__622 (by omega) ?_
                      refine j_istore (lv' := [(5, .int q75.1), (0, .ref (gX G)), (1, .ref (ad G 0)), (2, .ref (ad G 193)), (3, .ref (ad G 236)), (4, .int v4)]) dL_law__625 (by decide) rfl ?_
                      refine j_aload_n 3 dL_law__627 rfl ?_
                      refine j_aload_n 1 dL_law__628 rfl ?_
                      refine j_iload 5 dL_law__629 rfl ?_
                      refine j_iconst 1 dL_law__631 (by decide) ?_
                      refine j_iadd dL_law__632 ?_
                      obtain ⟨g76, hL⟩ := gd_ex hL
                      refine j_scr (ib_in g76) dL_law__633 ?_
                      refine j_aload_n 1 dL_law__634 rfl ?_
                      refine j_iload 5 dL_law__635 rfl ?_
                      refine j_iconst 2 dL_law__637 (by decide) ?_
                      refine j_iadd dL_law__638 ?_
                      obtain ⟨g77, hL⟩ := gd_ex hL
                      refine j_scr (ib_in g77) dL_law__639 ?_
                      refine j_aload_n 1 dL_law__640 rfl ?_
                      refine j_iload 5 dL_law__641 rfl ?_
                      refine j_iconst 3 dL_law__643 (by decide) ?_
                      refine j_iadd dL_law__644 ?_
                      obtain ⟨g78, hL⟩ := gd_ex hL
                      refine j_scr (ib_in g78) dL_law__645 ?_
                      obtain ⟨q79, hq79, hL⟩ := bnd_ex hL
                      refine j_callVi (c_X12_leaf G ((gS G) (cl (v4 + 1))) ((gS G) (cl (v4 + 2))) ((gS G) (cl (v4 + 3))) q75.2 _ hq79) cv_RL_148 rfl sh_193 (by decide) rfl (by decide) rfl rfl (Nat.le_of_ble_eq_true rfl) dL_law__646 (by omega) ?_
                      refine j_istore (lv' := [(6, .int q79.1), (5, .int q75.1), (0, .ref (gX G)), (1, .ref (ad G 0)), (2, .ref (ad G 193)), (3, .ref (ad G 236)), (4, .int v4)]) dL_law__649 (by decide) rfl ?_
                      refine j_aload_n 4 dL_law__651 rfl ?_
                      refine j_callVi (c_X12_thrown G  q79.2) cv_RL_124 rfl sh_193 (by decide) rfl (by decide) rfl rfl (Nat.le_of_ble_eq_true rfl) dL_law__652 (by omega) ?_
                      refine j_iload 1 dL_law__655 rfl ?_
                      refine j_icmp_eq 662 dL_law__657 (by decide) (fun z80 => ?_) (fun z80 => ?_)
                      · replace hL := (if_pos z80).symm.trans hL
                        refine j_iload 1 dL_law__662 rfl ?_
                        refine j_if_ne 679 dL_law__664 (by decide) (fun z81 => ?_) (fun z81 => ?_)
                        · replace hL := (if_neg z81).symm.trans hL
                          refine j_goto 2466 dL_law__679 (by decide) ?_
                          refine j_iinc (lv' := [(4, .int (v4 + 6)), (6, .int q79.1), (5, .int q75.1), (0, .ref (gX G)), (1, .ref (ad G 0)), (2, .ref (ad G 193)), (3, .ref (ad G 236))]) 6 dL_law__2466 rfl rfl (by decide) rfl ?_
                          refine j_goto 23 dL_law__2469 (by decide) ?_
                          refine j_sub [3, 4, 5, 6, 0] rfl ?_
                          refine j_widen (q' := q + 8) (by omega) ?_
                          exact ih (v4 + 6) q79.2 (q + 8) r hL (by omega) kE kR
                        · replace hL := (if_pos z81).symm.trans hL
                          refine j_aload_n 5 dL_law__667 rfl ?_
                          refine j_iconst 0 dL_law__668 (by decide) ?_
                          obtain ⟨g82, hL⟩ := gd_ex hL
                          refine j_lald sh_236 (ib_in g82) dL_law__669 ?_
                          refine j_iload 0 dL_law__670 rfl ?_
                          refine j_i2l dL_law__672 ?_
                          refine j_lcmp dL_law__673 ?_
                          refine j_if_eq 679 dL_law__674 (by decide) (fun z83 => ?_) (fun z83 => ?_)
                          · replace hL := (if_pos z83).symm.trans hL
                            refine j_goto 2466 dL_law__679 (by decide) ?_
                            refine j_iinc (lv' := [(4, .int (v4 + 6)), (6, .int q79.1), (5, .int q75.1), (0, .ref (gX G)), (1, .ref (ad G 0)), (2, .ref (ad G 193)), (3, .ref (ad G 236))]) 6 dL_law__2466 rfl rfl (by decide) rfl ?_
                            refine j_goto 23 dL_law__2469 (by decide) ?_
                            refine j_sub [3, 4, 5, 6, 0] rfl ?_
                            refine j_widen (q' := q + 8) (by omega) ?_
                            exact ih (v4 + 6) q79.2 (q + 8) r hL (by omega) kE kR
                          · replace hL := (if_neg z83).symm.trans hL
                            refine j_iconst 0 dL_law__677 (by decide) ?_
                            cases hL
                            exact (kR _ rfl).elim
                      · replace hL := (if_neg z80).symm.trans hL
                        refine j_iconst 0 dL_law__660 (by decide) ?_
                        cases hL
                        exact (kR _ rfl).elim
                    · replace hL := (if_neg z71).symm.trans hL
                      by_cases z84 : (((gS G) (cl v4)) &&& 63) = 8
                      · replace hL := (if_pos z84).symm.trans hL
                        refine j_swIn 682 dL_law__40 (by rw [z84]; decide) (by rw [z84]; decide) (by rw [z84]; rfl) (by decide) ?_
                        refine j_aload_n 1 dL_law__682 rfl ?_
                        refine j_aload_n 0 dL_law__683 rfl ?_
                        refine j_iload 4 dL_law__684 rfl ?_
                        refine j_iconst 1 dL_law__686 (by decide) ?_
                        refine j_iadd dL_law__687 ?_
                        obtain ⟨g85, hL⟩ := gd_ex hL
                        refine j_scr (ib_in g85) dL_law__688 ?_
                        refine j_aload_n 0 dL_law__689 rfl ?_
                        refine j_iload 4 dL_law__690 rfl ?_
                        refine j_iconst 2 dL_law__692 (by decide) ?_
                        refine j_iadd dL_law__693 ?_
                        obtain ⟨g86, hL⟩ := gd_ex hL
                        refine j_scr (ib_in g86) dL_law__694 ?_
                        refine j_aload_n 0 dL_law__695 rfl ?_
                        refine j_iload 4 dL_law__696 rfl ?_
                        refine j_iconst 3 dL_law__698 (by decide) ?_
                        refine j_iadd dL_law__699 ?_
                        obtain ⟨g87, hL⟩ := gd_ex hL
                        refine j_scr (ib_in g87) dL_law__700 ?_
                        refine j_aload_n 3 dL_law__701 rfl ?_
                        obtain ⟨q88, hq88, hL⟩ := bnd_ex hL
                        refine j_callW (c_L_turnings G ((gS G) (cl (v4 + 1))) ((gS G) (cl (v4 + 2))) ((gS G) (cl (v4 + 3))) h _ hq88) ch_RL_149 rfl (by decide) rfl rfl (Nat.le_of_ble_eq_true rfl) dL_law__702 (by omega) ?_
                        refine j_istore (lv' := [(5, .int q88.1), (0, .ref (gX G)), (1, .ref (ad G 0)), (2, .ref (ad G 193)), (3, .ref (ad G 236)), (4, .int v4)]) dL_law__705 (by decide) rfl ?_
                        refine j_aload_n 3 dL_law__707 rfl ?_
                        refine j_aload_n 1 dL_law__708 rfl ?_
                        refine j_iload 5 dL_law__709 rfl ?_
                        refine j_iconst 1 dL_law__711 (by decide) ?_
                        refine j_iadd dL_law__712 ?_
                        obtain ⟨g89, hL⟩ := gd_ex hL
                        refine j_scr (ib_in g89) dL_law__713 ?_
                        refine j_aload_n 1 dL_law__714 rfl ?_
                        refine j_iload 5 dL_law__715 rfl ?_
                        refine j_iconst 2 dL_law__717 (by decide) ?_
                        refine j_iadd dL_law__718 ?_
                        obtain ⟨g90, hL⟩ := gd_ex hL
                        refine j_scr (ib_in g90) dL_law__719 ?_
                        refine j_aload_n 1 dL_law__720 rfl ?_
                        refine j_iload 5 dL_law__721 rfl ?_
                        refine j_iconst 3 dL_law__723 (by decide) ?_
                        refine j_iadd dL_law__724 ?_
                        obtain ⟨g91, hL⟩ := gd_ex hL
                        refine j_scr (ib_in g91) dL_law__725 ?_
                        obtain ⟨q92, hq92, hL⟩ := bnd_ex hL
                        refine j_callVi (c_X12_turnings G ((gS G) (cl (v4 + 1))) ((gS G) (cl (v4 + 2))) ((gS G) (cl (v4 + 3))) q88.2 _ hq92) cv_RL_151 rfl sh_193 (by decide) rfl (by decide) rfl rfl (Nat.le_of_ble_eq_true rfl) dL_law__726 (by omega) ?_
                        refine j_istore (lv' := [(6, .int q92.1), (5, .int q88.1), (0, .ref (gX G)), (1, .ref (ad G 0)), (2, .ref (ad G 193)), (3, .ref (ad G 236)), (4, .int v4)]) dL_law__729 (by decide) rfl ?_
                        refine j_aload_n 4 dL_law__731 rfl ?_
                        refine j_callVi (c_X12_thrown G  q92.2) cv_RL_124 rfl sh_193 (by decide) rfl (by decide) rfl rfl (Nat.le_of_ble_eq_true rfl) dL_law__732 (by omega) ?_
                        refine j_iload 1 dL_law__735 rfl ?_
                        refine j_icmp_eq 742 dL_law__737 (by decide) (fun z93 => ?_) (fun z93 => ?_)
                        · replace hL := (if_pos z93).symm.trans hL
                          refine j_iload 1 dL_law__742 rfl ?_
                          refine j_if_ne 759 dL_law__744 (by decide) (fun z94 => ?_) (fun z94 => ?_)
                          · replace hL := (if_neg z94).symm.trans hL
                            refine j_goto 2466 dL_law__759 (by decide) ?_
                            refine j_iinc (lv' := [(4, .int (v4 + 6)), (6, .int q92.1), (5, .int q88.1), (0, .ref (gX G)), (1, .ref (ad G 0)), (2, .ref (ad G 193)), (3, .ref (ad G 236))]) 6 dL_law__2466 rfl rfl (by decide) rfl ?_
                            refine j_goto 23 dL_law__2469 (by decide) ?_
                            refine j_sub [3, 4, 5, 6, 0] rfl ?_
                            refine j_widen (q' := q + 8) (by omega) ?_
                            exact ih (v4 + 6) q92.2 (q + 8) r hL (by omega) kE kR
                          · replace hL := (if_pos z94).symm.trans hL
                            refine j_aload_n 5 dL_law__747 rfl ?_
                            refine j_iconst 0 dL_law__748 (by decide) ?_
                            obtain ⟨g95, hL⟩ := gd_ex hL
                            refine j_lald sh_236 (ib_in g95) dL_law__749 ?_
                            refine j_iload 0 dL_law__750 rfl ?_
                            refine j_i2l dL_law__752 ?_
                            refine j_lcmp dL_law__753 ?_
                            refine j_if_eq 759 dL_law__754 (by decide) (fun z96 => ?_) (fun z96 => ?_)
                            · replace hL := (if_pos z96).symm.trans hL
                              refine j_goto 2466 dL_law__759 (by decide) ?_
                              refine j_iinc (lv' := [(4, .int (v4 + 6)), (6, .int q92.1), (5, .int q88.1), (0, .ref (gX G)), (1, .ref (ad G 0)), (2, .ref (ad G 193)), (3, .ref (ad G 236))]) 6 dL_law__2466 rfl rfl (by decide) rfl ?_
                              refine j_goto 23 dL_law__2469 (by decide) ?_
                              refine j_sub [3, 4, 5, 6, 0] rfl ?_
                              refine j_widen (q' := q + 8) (by omega) ?_
                              exact ih (v4 + 6) q92.2 (q + 8) r hL (by omega) kE kR
                            · replace hL := (if_neg z96).symm.trans hL
                              refine j_iconst 0 dL_law__757 (by decide) ?_
                              cases hL
                              exact (kR _ rfl).elim
                        · replace hL := (if_neg z93).symm.trans hL
                          refine j_iconst 0 dL_law__740 (by decide) ?_
                          cases hL
                          exact (kR _ rfl).elim
                      · replace hL := (if_neg z84).symm.trans hL
                        by_cases z97 : (((gS G) (cl v4)) &&& 63) = 9
                        · replace hL := (if_pos z97).symm.trans hL
                          refine j_swIn 762 dL_law__40 (by rw [z97]; decide) (by rw [z97]; decide) (by rw [z97]; rfl) (by decide) ?_
                          refine j_aload_n 1 dL_law__762 rfl ?_
                          refine j_aload_n 0 dL_law__763 rfl ?_
                          refine j_iload 4 dL_law__764 rfl ?_
                          refine j_iconst 1 dL_law__766 (by decide) ?_
                          refine j_iadd dL_law__767 ?_
                          obtain ⟨g98, hL⟩ := gd_ex hL
                          refine j_scr (ib_in g98) dL_law__768 ?_
                          refine j_aload_n 0 dL_law__769 rfl ?_
                          refine j_iload 4 dL_law__770 rfl ?_
                          refine j_iconst 2 dL_law__772 (by decide) ?_
                          refine j_iadd dL_law__773 ?_
                          obtain ⟨g99, hL⟩ := gd_ex hL
                          refine j_scr (ib_in g99) dL_law__774 ?_
                          refine j_aload_n 0 dL_law__775 rfl ?_
                          refine j_iload 4 dL_law__776 rfl ?_
                          refine j_iconst 3 dL_law__778 (by decide) ?_
                          refine j_iadd dL_law__779 ?_
                          obtain ⟨g100, hL⟩ := gd_ex hL
                          refine j_scr (ib_in g100) dL_law__780 ?_
                          refine j_aload_n 0 dL_law__781 rfl ?_
                          refine j_iload 4 dL_law__782 rfl ?_
                          refine j_iconst 4 dL_law__784 (by decide) ?_
                          refine j_iadd dL_law__785 ?_
                          obtain ⟨g101, hL⟩ := gd_ex hL
                          refine j_scr (ib_in g101) dL_law__786 ?_
                          refine j_aload_n 3 dL_law__787 rfl ?_
                          obtain ⟨q102, hq102, hL⟩ := bnd_ex hL
                          refine j_callW (c_L_reader G ((gS G) (cl (v4 + 1))) ((gS G) (cl (v4 + 2))) ((gS G) (cl (v4 + 3))) ((gS G) (cl (v4 + 4))) h _ hq102) ch_RL_152 rfl (by decide) rfl rfl (Nat.le_of_ble_eq_true rfl) dL_law__788 (by omega) ?_
                          refine j_istore (lv' := [(5, .int q102.1), (0, .ref (gX G)), (1, .ref (ad G 0)), (2, .ref (ad G 193)), (3, .ref (ad G 236)), (4, .int v4)]) dL_law__791 (by decide) rfl ?_
                          refine j_aload_n 3 dL_law__793 rfl ?_
                          refine j_aload_n 1 dL_law__794 rfl ?_
                          refine j_iload 5 dL_law__795 rfl ?_
                          refine j_iconst 1 dL_law__797 (by decide) ?_
                          refine j_iadd dL_law__798 ?_
                          obtain ⟨g103, hL⟩ := gd_ex hL
                          refine j_scr (ib_in g103) dL_law__799 ?_
                          refine j_aload_n 1 dL_law__800 rfl ?_
                          refine j_iload 5 dL_law__801 rfl ?_
                          refine j_iconst 2 dL_law__803 (by decide) ?_
                          refine j_iadd dL_law__804 ?_
                          obtain ⟨g104, hL⟩ := gd_ex hL
                          refine j_scr (ib_in g104) dL_law__805 ?_
                          refine j_aload_n 1 dL_law__806 rfl ?_
                          refine j_iload 5 dL_law__807 rfl ?_
                          refine j_iconst 3 dL_law__809 (by decide) ?_
                          refine j_iadd dL_law__810 ?_
                          obtain ⟨g105, hL⟩ := gd_ex hL
                          refine j_scr (ib_in g105) dL_law__811 ?_
                          refine j_aload_n 1 dL_law__812 rfl ?_
                          refine j_iload 5 dL_law__813 rfl ?_
                          refine j_iconst 4 dL_law__815 (by decide) ?_
                          refine j_iadd dL_law__816 ?_
                          obtain ⟨g106, hL⟩ := gd_ex hL
                          refine j_scr (ib_in g106) dL_law__817 ?_
                          obtain ⟨q107, hq107, hL⟩ := bnd_ex hL
                          refine j_callVi (c_X12_reader G ((gS G) (cl (v4 + 1))) ((gS G) (cl (v4 + 2))) ((gS G) (cl (v4 + 3))) ((gS G) (cl (v4 + 4))) q102.2 _ hq107) cv_RL_155 rfl sh_193 (by decide) rfl (by decide) rfl rfl (Nat.le_of_ble_eq_true rfl) dL_law__818 (by omega) ?_
                          refine j_istore (lv' := [(6, .int q107.1), (5, .int q102.1), (0, .ref (gX G)), (1, .ref (ad G 0)), (2, .ref (ad G 193)), (3, .ref (ad G 236)), (4, .int v4)]) dL_law__821 (by decide) rfl ?_
                          refine j_aload_n 4 dL_law__823 rfl ?_
                          refine j_callVi (c_X12_thrown G  q107.2) cv_RL_124 rfl sh_193 (by decide) rfl (by decide) rfl rfl (Nat.le_of_ble_eq_true rfl) dL_law__824 (by omega) ?_
                          refine j_iload 1 dL_law__827 rfl ?_
                          refine j_icmp_eq 834 dL_law__829 (by decide) (fun z108 => ?_) (fun z108 => ?_)
                          · replace hL := (if_pos z108).symm.trans hL
                            refine j_iload 1 dL_law__834 rfl ?_
                            refine j_if_ne 851 dL_law__836 (by decide) (fun z109 => ?_) (fun z109 => ?_)
                            · replace hL := (if_neg z109).symm.trans hL
                              refine j_goto 2466 dL_law__851 (by decide) ?_
                              refine j_iinc (lv' := [(4, .int (v4 + 6)), (6, .int q107.1), (5, .int q102.1), (0, .ref (gX G)), (1, .ref (ad G 0)), (2, .ref (ad G 193)), (3, .ref (ad G 236))]) 6 dL_law__2466 rfl rfl (by decide) rfl ?_
                              refine j_goto 23 dL_law__2469 (by decide) ?_
                              refine j_sub [3, 4, 5, 6, 0] rfl ?_
                              refine j_widen (q' := q + 8) (by omega) ?_
                              exact ih (v4 + 6) q107.2 (q + 8) r hL (by omega) kE kR
                            · replace hL := (if_pos z109).symm.trans hL
                              refine j_aload_n 5 dL_law__839 rfl ?_
                              refine j_iconst 0 dL_law__840 (by decide) ?_
                              obtain ⟨g110, hL⟩ := gd_ex hL
                              refine j_lald sh_236 (ib_in g110) dL_law__841 ?_
                              refine j_iload 0 dL_law__842 rfl ?_
                              refine j_i2l dL_law__844 ?_
                              refine j_lcmp dL_law__845 ?_
                              refine j_if_eq 851 dL_law__846 (by decide) (fun z111 => ?_) (fun z111 => ?_)
                              · replace hL := (if_pos z111).symm.trans hL
                                refine j_goto 2466 dL_law__851 (by decide) ?_
                                refine j_iinc (lv' := [(4, .int (v4 + 6)), (6, .int q107.1), (5, .int q102.1), (0, .ref (gX G)), (1, .ref (ad G 0)), (2, .ref (ad G 193)), (3, .ref (ad G 236))]) 6 dL_law__2466 rfl rfl (by decide) rfl ?_
                                refine j_goto 23 dL_law__2469 (by decide) ?_
                                refine j_sub [3, 4, 5, 6, 0] rfl ?_
                                refine j_widen (q' := q + 8) (by omega) ?_
                                exact ih (v4 + 6) q107.2 (q + 8) r hL (by omega) kE kR
                              · replace hL := (if_neg z111).symm.trans hL
                                refine j_iconst 0 dL_law__849 (by decide) ?_
                                cases hL
                                exact (kR _ rfl).elim
                          · replace hL := (if_neg z108).symm.trans hL
                            refine j_iconst 0 dL_law__832 (by decide) ?_
                            cases hL
                            exact (kR _ rfl).elim
                        · replace hL := (if_neg z97).symm.trans hL
                          by_cases z112 : (((gS G) (cl v4)) &&& 63) = 10
                          · replace hL := (if_pos z112).symm.trans hL
                            refine j_swIn 854 dL_law__40 (by rw [z112]; decide) (by rw [z112]; decide) (by rw [z112]; rfl) (by decide) ?_
                            refine j_aload_n 1 dL_law__854 rfl ?_
                            refine j_aload_n 0 dL_law__855 rfl ?_
                            refine j_iload 4 dL_law__856 rfl ?_
                            refine j_iconst 1 dL_law__858 (by decide) ?_
                            refine j_iadd dL_law__859 ?_
                            obtain ⟨g113, hL⟩ := gd_ex hL
                            refine j_scr (ib_in g113) dL_law__860 ?_
                            refine j_aload_n 3 dL_law__861 rfl ?_
                            obtain ⟨q114, hq114, hL⟩ := bnd_ex hL
                            refine j_callW (c_L_gone G ((gS G) (cl (v4 + 1))) h _ hq114) ch_RL_156 rfl (by decide) rfl rfl (Nat.le_of_ble_eq_true rfl) dL_law__862 (by omega) ?_
                            refine j_istore (lv' := [(5, .int q114.1), (0, .ref (gX G)), (1, .ref (ad G 0)), (2, .ref (ad G 193)), (3, .ref (ad G 236)), (4, .int v4)]) dL_law__865 (by decide) rfl ?_
                            refine j_aload_n 3 dL_law__867 rfl ?_
                            refine j_aload_n 1 dL_law__868 rfl ?_
                            refine j_iload 5 dL_law__869 rfl ?_
                            refine j_iconst 1 dL_law__871 (by decide) ?_
                            refine j_iadd dL_law__872 ?_
                            obtain ⟨g115, hL⟩ := gd_ex hL
                            refine j_scr (ib_in g115) dL_law__873 ?_
                            obtain ⟨q116, hq116, hL⟩ := bnd_ex hL
                            refine j_callVi (c_X12_gone G ((gS G) (cl (v4 + 1))) q114.2 _ hq116) cv_RL_158 rfl sh_193 (by decide) rfl (by decide) rfl rfl (Nat.le_of_ble_eq_true rfl) dL_law__874 (by omega) ?_
                            refine j_istore (lv' := [(6, .int q116.1), (5, .int q114.1), (0, .ref (gX G)), (1, .ref (ad G 0)), (2, .ref (ad G 193)), (3, .ref (ad G 236)), (4, .int v4)]) dL_law__877 (by decide) rfl ?_
                            refine j_aload_n 4 dL_law__879 rfl ?_
                            refine j_callVi (c_X12_thrown G  q116.2) cv_RL_124 rfl sh_193 (by decide) rfl (by decide) rfl rfl (Nat.le_of_ble_eq_true rfl) dL_law__880 (by omega) ?_
                            refine j_iload 1 dL_law__883 rfl ?_
                            refine j_icmp_eq 890 dL_law__885 (by decide) (fun z117 => ?_) (fun z117 => ?_)
                            · replace hL := (if_pos z117).symm.trans hL
                              refine j_iload 1 dL_law__890 rfl ?_
                              refine j_if_ne 907 dL_law__892 (by decide) (fun z118 => ?_) (fun z118 => ?_)
                              · replace hL := (if_neg z118).symm.trans hL
                                refine j_goto 2466 dL_law__907 (by decide) ?_
                                refine j_iinc (lv' := [(4, .int (v4 + 6)), (6, .int q116.1), (5, .int q114.1), (0, .ref (gX G)), (1, .ref (ad G 0)), (2, .ref (ad G 193)), (3, .ref (ad G 236))]) 6 dL_law__2466 rfl rfl (by decide) rfl ?_
                                refine j_goto 23 dL_law__2469 (by decide) ?_
                                refine j_sub [3, 4, 5, 6, 0] rfl ?_
                                refine j_widen (q' := q + 8) (by omega) ?_
                                exact ih (v4 + 6) q116.2 (q + 8) r hL (by omega) kE kR
                              · replace hL := (if_pos z118).symm.trans hL
                                refine j_aload_n 5 dL_law__895 rfl ?_
                                refine j_iconst 0 dL_law__896 (by decide) ?_
                                obtain ⟨g119, hL⟩ := gd_ex hL
                                refine j_lald sh_236 (ib_in g119) dL_law__897 ?_
                                refine j_iload 0 dL_law__898 rfl ?_
                                refine j_i2l dL_law__900 ?_
                                refine j_lcmp dL_law__901 ?_
                                refine j_if_eq 907 dL_law__902 (by decide) (fun z120 => ?_) (fun z120 => ?_)
                                · replace hL := (if_pos z120).symm.trans hL
                                  refine j_goto 2466 dL_law__907 (by decide) ?_
                                  refine j_iinc (lv' := [(4, .int (v4 + 6)), (6, .int q116.1), (5, .int q114.1), (0, .ref (gX G)), (1, .ref (ad G 0)), (2, .ref (ad G 193)), (3, .ref (ad G 236))]) 6 dL_law__2466 rfl rfl (by decide) rfl ?_
                                  refine j_goto 23 dL_law__2469 (by decide) ?_
                                  refine j_sub [3, 4, 5, 6, 0] rfl ?_
                                  refine j_widen (q' := q + 8) (by omega) ?_
                                  exact ih (v4 + 6) q116.2 (q + 8) r hL (by omega) kE kR
                                · replace hL := (if_neg z120).symm.trans hL
                                  refine j_iconst 0 dL_law__905 (by decide) ?_
                                  cases hL
                                  exact (kR _ rfl).elim
                            · replace hL := (if_neg z117).symm.trans hL
                              refine j_iconst 0 dL_law__888 (by decide) ?_
                              cases hL
                              exact (kR _ rfl).elim
                          · replace hL := (if_neg z112).symm.trans hL
                            by_cases z121 : (((gS G) (cl v4)) &&& 63) = 11
                            · replace hL := (if_pos z121).symm.trans hL
                              refine j_swIn 910 dL_law__40 (by rw [z121]; decide) (by rw [z121]; decide) (by rw [z121]; rfl) (by decide) ?_
                              refine j_aload_n 1 dL_law__910 rfl ?_
                              refine j_aload_n 0 dL_law__911 rfl ?_
                              refine j_iload 4 dL_law__912 rfl ?_
                              refine j_iconst 1 dL_law__914 (by decide) ?_
                              refine j_iadd dL_law__915 ?_
                              obtain ⟨g122, hL⟩ := gd_ex hL
                              refine j_scr (ib_in g122) dL_law__916 ?_
                              refine j_aload_n 0 dL_law__917 rfl ?_
                              refine j_iload 4 dL_law__918 rfl ?_
                              refine j_iconst 2 dL_law__920 (by decide) ?_
                              refine j_iadd dL_law__921 ?_
                              obtain ⟨g123, hL⟩ := gd_ex hL
                              refine j_scr (ib_in g123) dL_law__922 ?_
                              refine j_aload_n 0 dL_law__923 rfl ?_
                              refine j_iload 4 dL_law__924 rfl ?_
                              refine j_iconst 3 dL_law__926 (by decide) ?_
                              refine j_iadd dL_law__927 ?_
                              obtain ⟨g124, hL⟩ := gd_ex hL
                              refine j_scr (ib_in g124) dL_law__928 ?_
                              refine j_aload_n 3 dL_law__929 rfl ?_
                              obtain ⟨q125, hq125, hL⟩ := bnd_ex hL
                              refine j_callW (c_L_dirt G ((gS G) (cl (v4 + 1))) ((gS G) (cl (v4 + 2))) ((gS G) (cl (v4 + 3))) h _ hq125) ch_RL_159 rfl (by decide) rfl rfl (Nat.le_of_ble_eq_true rfl) dL_law__930 (by omega) ?_
                              refine j_istore (lv' := [(5, .int q125.1), (0, .ref (gX G)), (1, .ref (ad G 0)), (2, .ref (ad G 193)), (3, .ref (ad G 236)), (4, .int v4)]) dL_law__933 (by decide) rfl ?_
                              refine j_aload_n 3 dL_law__935 rfl ?_
                              refine j_aload_n 1 dL_law__936 rfl ?_
                              refine j_iload 5 dL_law__937 rfl ?_
                              refine j_iconst 1 dL_law__939 (by decide) ?_
                              refine j_iadd dL_law__940 ?_
                              obtain ⟨g126, hL⟩ := gd_ex hL
                              refine j_scr (ib_in g126) dL_law__941 ?_
                              refine j_aload_n 1 dL_law__942 rfl ?_
                              refine j_iload 5 dL_law__943 rfl ?_
                              refine j_iconst 2 dL_law__945 (by decide) ?_
                              refine j_iadd dL_law__946 ?_
                              obtain ⟨g127, hL⟩ := gd_ex hL
                              refine j_scr (ib_in g127) dL_law__947 ?_
                              refine j_aload_n 1 dL_law__948 rfl ?_
                              refine j_iload 5 dL_law__949 rfl ?_
                              refine j_iconst 3 dL_law__951 (by decide) ?_
                              refine j_iadd dL_law__952 ?_
                              obtain ⟨g128, hL⟩ := gd_ex hL
                              refine j_scr (ib_in g128) dL_law__953 ?_
                              obtain ⟨q129, hq129, hL⟩ := bnd_ex hL
                              refine j_callVi (c_X12_dirt G ((gS G) (cl (v4 + 1))) ((gS G) (cl (v4 + 2))) ((gS G) (cl (v4 + 3))) q125.2 _ hq129) cv_RL_161 rfl sh_193 (by decide) rfl (by decide) rfl rfl (Nat.le_of_ble_eq_true rfl) dL_law__954 (by omega) ?_
                              refine j_istore (lv' := [(6, .int q129.1), (5, .int q125.1), (0, .ref (gX G)), (1, .ref (ad G 0)), (2, .ref (ad G 193)), (3, .ref (ad G 236)), (4, .int v4)]) dL_law__957 (by decide) rfl ?_
                              refine j_aload_n 4 dL_law__959 rfl ?_
                              refine j_callVi (c_X12_thrown G  q129.2) cv_RL_124 rfl sh_193 (by decide) rfl (by decide) rfl rfl (Nat.le_of_ble_eq_true rfl) dL_law__960 (by omega) ?_
                              refine j_iload 1 dL_law__963 rfl ?_
                              refine j_icmp_eq 970 dL_law__965 (by decide) (fun z130 => ?_) (fun z130 => ?_)
                              · replace hL := (if_pos z130).symm.trans hL
                                refine j_iload 1 dL_law__970 rfl ?_
                                refine j_if_ne 987 dL_law__972 (by decide) (fun z131 => ?_) (fun z131 => ?_)
                                · replace hL := (if_neg z131).symm.trans hL
                                  refine j_goto 2466 dL_law__987 (by decide) ?_
                                  refine j_iinc (lv' := [(4, .int (v4 + 6)), (6, .int q129.1), (5, .int q125.1), (0, .ref (gX G)), (1, .ref (ad G 0)), (2, .ref (ad G 193)), (3, .ref (ad G 236))]) 6 dL_law__2466 rfl rfl (by decide) rfl ?_
                                  refine j_goto 23 dL_law__2469 (by decide) ?_
                                  refine j_sub [3, 4, 5, 6, 0] rfl ?_
                                  refine j_widen (q' := q + 8) (by omega) ?_
                                  exact ih (v4 + 6) q129.2 (q + 8) r hL (by omega) kE kR
                                · replace hL := (if_pos z131).symm.trans hL
                                  refine j_aload_n 5 dL_law__975 rfl ?_
                                  refine j_iconst 0 dL_law__976 (by decide) ?_
                                  obtain ⟨g132, hL⟩ := gd_ex hL
                                  refine j_lald sh_236 (ib_in g132) dL_law__977 ?_
                                  refine j_iload 0 dL_law__978 rfl ?_
                                  refine j_i2l dL_law__980 ?_
                                  refine j_lcmp dL_law__981 ?_
                                  refine j_if_eq 987 dL_law__982 (by decide) (fun z133 => ?_) (fun z133 => ?_)
                                  · replace hL := (if_pos z133).symm.trans hL
                                    refine j_goto 2466 dL_law__987 (by decide) ?_
                                    refine j_iinc (lv' := [(4, .int (v4 + 6)), (6, .int q129.1), (5, .int q125.1), (0, .ref (gX G)), (1, .ref (ad G 0)), (2, .ref (ad G 193)), (3, .ref (ad G 236))]) 6 dL_law__2466 rfl rfl (by decide) rfl ?_
                                    refine j_goto 23 dL_law__2469 (by decide) ?_
                                    refine j_sub [3, 4, 5, 6, 0] rfl ?_
                                    refine j_widen (q' := q + 8) (by omega) ?_
                                    exact ih (v4 + 6) q129.2 (q + 8) r hL (by omega) kE kR
                                  · replace hL := (if_neg z133).symm.trans hL
                                    refine j_iconst 0 dL_law__985 (by decide) ?_
                                    cases hL
                                    exact (kR _ rfl).elim
                              · replace hL := (if_neg z130).symm.trans hL
                                refine j_iconst 0 dL_law__968 (by decide) ?_
                                cases hL
                                exact (kR _ rfl).elim
                            · replace hL := (if_neg z121).symm.trans hL
                              by_cases z134 : (((gS G) (cl v4)) &&& 63) = 12
                              · replace hL := (if_pos z134).symm.trans hL
                                refine j_swIn 990 dL_law__40 (by rw [z134]; decide) (by rw [z134]; decide) (by rw [z134]; rfl) (by decide) ?_
                                refine j_aload_n 1 dL_law__990 rfl ?_
                                refine j_aload_n 0 dL_law__991 rfl ?_
                                refine j_iload 4 dL_law__992 rfl ?_
                                refine j_iconst 1 dL_law__994 (by decide) ?_
                                refine j_iadd dL_law__995 ?_
                                obtain ⟨g135, hL⟩ := gd_ex hL
                                refine j_scr (ib_in g135) dL_law__996 ?_
                                refine j_aload_n 0 dL_law__997 rfl ?_
                                refine j_iload 4 dL_law__998 rfl ?_
                                refine j_iconst 2 dL_law__1000 (by decide) ?_
                                refine j_iadd dL_law__1001 ?_
                                obtain ⟨g136, hL⟩ := gd_ex hL
                                refine j_scr (ib_in g136) dL_law__1002 ?_
                                refine j_aload_n 3 dL_law__1003 rfl ?_
                                obtain ⟨q137, hq137, hL⟩ := bnd_ex hL
                                refine j_callW (c_L_drawn G ((gS G) (cl (v4 + 1))) ((gS G) (cl (v4 + 2))) h _ hq137) ch_RL_162 rfl (by decide) rfl rfl (Nat.le_of_ble_eq_true rfl) dL_law__1004 (by omega) ?_
                                refine j_istore (lv' := [(5, .int q137.1), (0, .ref (gX G)), (1, .ref (ad G 0)), (2, .ref (ad G 193)), (3, .ref (ad G 236)), (4, .int v4)]) dL_law__1007 (by decide) rfl ?_
                                refine j_aload_n 3 dL_law__1009 rfl ?_
                                refine j_aload_n 1 dL_law__1010 rfl ?_
                                refine j_iload 5 dL_law__1011 rfl ?_
                                refine j_iconst 1 dL_law__1013 (by decide) ?_
                                refine j_iadd dL_law__1014 ?_
                                obtain ⟨g138, hL⟩ := gd_ex hL
                                refine j_scr (ib_in g138) dL_law__1015 ?_
                                refine j_aload_n 1 dL_law__1016 rfl ?_
                                refine j_iload 5 dL_law__1017 rfl ?_
                                refine j_iconst 2 dL_law__1019 (by decide) ?_
                                refine j_iadd dL_law__1020 ?_
                                obtain ⟨g139, hL⟩ := gd_ex hL
                                refine j_scr (ib_in g139) dL_law__1021 ?_
                                obtain ⟨q140, hq140, hL⟩ := bnd_ex hL
                                refine j_callVi (c_X12_drawn G ((gS G) (cl (v4 + 1))) ((gS G) (cl (v4 + 2))) q137.2 _ hq140) cv_RL_164 rfl sh_193 (by decide) rfl (by decide) rfl rfl (Nat.le_of_ble_eq_true rfl) dL_law__1022 (by omega) ?_
                                refine j_istore (lv' := [(6, .int q140.1), (5, .int q137.1), (0, .ref (gX G)), (1, .ref (ad G 0)), (2, .ref (ad G 193)), (3, .ref (ad G 236)), (4, .int v4)]) dL_law__1025 (by decide) rfl ?_
                                refine j_aload_n 4 dL_law__1027 rfl ?_
                                refine j_callVi (c_X12_thrown G  q140.2) cv_RL_124 rfl sh_193 (by decide) rfl (by decide) rfl rfl (Nat.le_of_ble_eq_true rfl) dL_law__1028 (by omega) ?_
                                refine j_iload 1 dL_law__1031 rfl ?_
                                refine j_icmp_eq 1038 dL_law__1033 (by decide) (fun z141 => ?_) (fun z141 => ?_)
                                · replace hL := (if_pos z141).symm.trans hL
                                  refine j_iload 1 dL_law__1038 rfl ?_
                                  refine j_if_ne 1055 dL_law__1040 (by decide) (fun z142 => ?_) (fun z142 => ?_)
                                  · replace hL := (if_neg z142).symm.trans hL
                                    refine j_goto 2466 dL_law__1055 (by decide) ?_
                                    refine j_iinc (lv' := [(4, .int (v4 + 6)), (6, .int q140.1), (5, .int q137.1), (0, .ref (gX G)), (1, .ref (ad G 0)), (2, .ref (ad G 193)), (3, .ref (ad G 236))]) 6 dL_law__2466 rfl rfl (by decide) rfl ?_
                                    refine j_goto 23 dL_law__2469 (by decide) ?_
                                    refine j_sub [3, 4, 5, 6, 0] rfl ?_
                                    refine j_widen (q' := q + 8) (by omega) ?_
                                    exact ih (v4 + 6) q140.2 (q + 8) r hL (by omega) kE kR
                                  · replace hL := (if_pos z142).symm.trans hL
                                    refine j_aload_n 5 dL_law__1043 rfl ?_
                                    refine j_iconst 0 dL_law__1044 (by decide) ?_
                                    obtain ⟨g143, hL⟩ := gd_ex hL
                                    refine j_lald sh_236 (ib_in g143) dL_law__1045 ?_
                                    refine j_iload 0 dL_law__1046 rfl ?_
                                    refine j_i2l dL_law__1048 ?_
                                    refine j_lcmp dL_law__1049 ?_
                                    refine j_if_eq 1055 dL_law__1050 (by decide) (fun z144 => ?_) (fun z144 => ?_)
                                    · replace hL := (if_pos z144).symm.trans hL
                                      refine j_goto 2466 dL_law__1055 (by decide) ?_
                                      refine j_iinc (lv' := [(4, .int (v4 + 6)), (6, .int q140.1), (5, .int q137.1), (0, .ref (gX G)), (1, .ref (ad G 0)), (2, .ref (ad G 193)), (3, .ref (ad G 236))]) 6 dL_law__2466 rfl rfl (by decide) rfl ?_
                                      refine j_goto 23 dL_law__2469 (by decide) ?_
                                      refine j_sub [3, 4, 5, 6, 0] rfl ?_
                                      refine j_widen (q' := q + 8) (by omega) ?_
                                      exact ih (v4 + 6) q140.2 (q + 8) r hL (by omega) kE kR
                                    · replace hL := (if_neg z144).symm.trans hL
                                      refine j_iconst 0 dL_law__1053 (by decide) ?_
                                      cases hL
                                      exact (kR _ rfl).elim
                                · replace hL := (if_neg z141).symm.trans hL
                                  refine j_iconst 0 dL_law__1036 (by decide) ?_
                                  cases hL
                                  exact (kR _ rfl).elim
                              · replace hL := (if_neg z134).symm.trans hL
                                by_cases z145 : (((gS G) (cl v4)) &&& 63) = 13
                                · replace hL := (if_pos z145).symm.trans hL
                                  refine j_swIn 1058 dL_law__40 (by rw [z145]; decide) (by rw [z145]; decide) (by rw [z145]; rfl) (by decide) ?_
                                  refine j_aload_n 1 dL_law__1058 rfl ?_
                                  refine j_aload_n 0 dL_law__1059 rfl ?_
                                  refine j_iload 4 dL_law__1060 rfl ?_
                                  refine j_iconst 1 dL_law__1062 (by decide) ?_
                                  refine j_iadd dL_law__1063 ?_
                                  obtain ⟨g146, hL⟩ := gd_ex hL
                                  refine j_scr (ib_in g146) dL_law__1064 ?_
                                  refine j_aload_n 0 dL_law__1065 rfl ?_
                                  refine j_iload 4 dL_law__1066 rfl ?_
                                  refine j_iconst 2 dL_law__1068 (by decide) ?_
                                  refine j_iadd dL_law__1069 ?_
                                  obtain ⟨g147, hL⟩ := gd_ex hL
                                  refine j_scr (ib_in g147) dL_law__1070 ?_
                                  refine j_aload_n 0 dL_law__1071 rfl ?_
                                  refine j_iload 4 dL_law__1072 rfl ?_
                                  refine j_iconst 3 dL_law__1074 (by decide) ?_
                                  refine j_iadd dL_law__1075 ?_
                                  obtain ⟨g148, hL⟩ := gd_ex hL
                                  refine j_scr (ib_in g148) dL_law__1076 ?_
                                  refine j_aload_n 3 dL_law__1077 rfl ?_
                                  obtain ⟨q149, hq149, hL⟩ := bnd_ex hL
                                  refine j_callW (c_L_read G ((gS G) (cl (v4 + 1))) ((gS G) (cl (v4 + 2))) ((gS G) (cl (v4 + 3))) h _ hq149) ch_RL_165 rfl (by decide) rfl rfl (Nat.le_of_ble_eq_true rfl) dL_law__1078 (by omega) ?_
                                  refine j_istore (lv' := [(5, .int q149.1), (0, .ref (gX G)), (1, .ref (ad G 0)), (2, .ref (ad G 193)), (3, .ref (ad G 236)), (4, .int v4)]) dL_law__1081 (by decide) rfl ?_
                                  refine j_aload_n 3 dL_law__1083 rfl ?_
                                  refine j_aload_n 1 dL_law__1084 rfl ?_
                                  refine j_iload 5 dL_law__1085 rfl ?_
                                  refine j_iconst 1 dL_law__1087 (by decide) ?_
                                  refine j_iadd dL_law__1088 ?_
                                  obtain ⟨g150, hL⟩ := gd_ex hL
                                  refine j_scr (ib_in g150) dL_law__1089 ?_
                                  refine j_aload_n 1 dL_law__1090 rfl ?_
                                  refine j_iload 5 dL_law__1091 rfl ?_
                                  refine j_iconst 2 dL_law__1093 (by decide) ?_
                                  refine j_iadd dL_law__1094 ?_
                                  obtain ⟨g151, hL⟩ := gd_ex hL
                                  refine j_scr (ib_in g151) dL_law__1095 ?_
                                  refine j_aload_n 1 dL_law__1096 rfl ?_
                                  refine j_iload 5 dL_law__1097 rfl ?_
                                  refine j_iconst 3 dL_law__1099 (by decide) ?_
                                  refine j_iadd dL_law__1100 ?_
                                  obtain ⟨g152, hL⟩ := gd_ex hL
                                  refine j_scr (ib_in g152) dL_law__1101 ?_
                                  obtain ⟨q153, hq153, hL⟩ := bnd_ex hL
                                  refine j_callVi (c_X12_read G ((gS G) (cl (v4 + 1))) ((gS G) (cl (v4 + 2))) ((gS G) (cl (v4 + 3))) q149.2 _ hq153) cv_RL_167 rfl sh_193 (by decide) rfl (by decide) rfl rfl (Nat.le_of_ble_eq_true rfl) dL_law__1102 (by omega) ?_
                                  refine j_istore (lv' := [(6, .int (bI q153.1)), (5, .int q149.1), (0, .ref (gX G)), (1, .ref (ad G 0)), (2, .ref (ad G 193)), (3, .ref (ad G 236)), (4, .int v4)]) dL_law__1105 (by decide) rfl ?_
                                  refine j_aload_n 4 dL_law__1107 rfl ?_
                                  refine j_callVi (c_X12_thrown G  q153.2) cv_RL_124 rfl sh_193 (by decide) rfl (by decide) rfl rfl (Nat.le_of_ble_eq_true rfl) dL_law__1108 (by omega) ?_
                                  refine j_iload 1 dL_law__1111 rfl ?_
                                  refine j_icmp_eq 1118 dL_law__1113 (by decide) (fun z154 => ?_) (fun z154 => ?_)
                                  · replace hL := (if_pos z154).symm.trans hL
                                    refine j_iload 1 dL_law__1118 rfl ?_
                                    refine j_if_ne 1142 dL_law__1120 (by decide) (fun z155 => ?_) (fun z155 => ?_)
                                    · replace hL := (if_neg z155).symm.trans hL
                                      refine j_goto 2466 dL_law__1142 (by decide) ?_
                                      refine j_iinc (lv' := [(4, .int (v4 + 6)), (6, .int (bI q153.1)), (5, .int q149.1), (0, .ref (gX G)), (1, .ref (ad G 0)), (2, .ref (ad G 193)), (3, .ref (ad G 236))]) 6 dL_law__2466 rfl rfl (by decide) rfl ?_
                                      refine j_goto 23 dL_law__2469 (by decide) ?_
                                      refine j_sub [3, 4, 5, 6, 0] rfl ?_
                                      refine j_widen (q' := q + 8) (by omega) ?_
                                      exact ih (v4 + 6) q153.2 (q + 8) r hL (by omega) kE kR
                                    · replace hL := (if_pos z155).symm.trans hL
                                      refine j_aload_n 5 dL_law__1123 rfl ?_
                                      refine j_iconst 0 dL_law__1124 (by decide) ?_
                                      obtain ⟨g156, hL⟩ := gd_ex hL
                                      refine j_lald sh_236 (ib_in g156) dL_law__1125 ?_
                                      refine j_iload 0 dL_law__1126 rfl ?_
                                      refine j_if_eq 1135 dL_law__1128 (by decide) (fun z157 => ?_) (fun z157 => ?_)
                                      · replace hL := (if_pos z157).symm.trans hL
                                        refine j_lconst 0 dL_law__1135 (by decide) ?_
                                        refine j_lcmp dL_law__1136 ?_
                                        refine j_if_eq 1142 dL_law__1137 (by decide) (fun z158 => ?_) (fun z158 => ?_)
                                        · replace hL := (if_pos z158).symm.trans hL
                                          refine j_goto 2466 dL_law__1142 (by decide) ?_
                                          refine j_iinc (lv' := [(4, .int (v4 + 6)), (6, .int (bI q153.1)), (5, .int q149.1), (0, .ref (gX G)), (1, .ref (ad G 0)), (2, .ref (ad G 193)), (3, .ref (ad G 236))]) 6 dL_law__2466 rfl rfl (by decide) rfl ?_
                                          refine j_goto 23 dL_law__2469 (by decide) ?_
                                          refine j_sub [3, 4, 5, 6, 0] rfl ?_
                                          refine j_widen (q' := q + 8) (by omega) ?_
                                          exact ih (v4 + 6) q153.2 (q + 8) r hL (by omega) kE kR
                                        · replace hL := (if_neg z158).symm.trans hL
                                          refine j_iconst 0 dL_law__1140 (by decide) ?_
                                          cases hL
                                          exact (kR _ rfl).elim
                                      · replace hL := (if_neg z157).symm.trans hL
                                        refine j_lconst 1 dL_law__1131 (by decide) ?_
                                        refine j_goto 1136 dL_law__1132 (by decide) ?_
                                        refine j_lcmp dL_law__1136 ?_
                                        refine j_if_eq 1142 dL_law__1137 (by decide) (fun z159 => ?_) (fun z159 => ?_)
                                        · replace hL := (if_pos z159).symm.trans hL
                                          refine j_goto 2466 dL_law__1142 (by decide) ?_
                                          refine j_iinc (lv' := [(4, .int (v4 + 6)), (6, .int (bI q153.1)), (5, .int q149.1), (0, .ref (gX G)), (1, .ref (ad G 0)), (2, .ref (ad G 193)), (3, .ref (ad G 236))]) 6 dL_law__2466 rfl rfl (by decide) rfl ?_
                                          refine j_goto 23 dL_law__2469 (by decide) ?_
                                          refine j_sub [3, 4, 5, 6, 0] rfl ?_
                                          refine j_widen (q' := q + 8) (by omega) ?_
                                          exact ih (v4 + 6) q153.2 (q + 8) r hL (by omega) kE kR
                                        · replace hL := (if_neg z159).symm.trans hL
                                          refine j_iconst 0 dL_law__1140 (by decide) ?_
                                          cases hL
                                          exact (kR _ rfl).elim
                                  · replace hL := (if_neg z154).symm.trans hL
                                    refine j_iconst 0 dL_law__1116 (by decide) ?_
                                    cases hL
                                    exact (kR _ rfl).elim
                                · replace hL := (if_neg z145).symm.trans hL
                                  by_cases z160 : (((gS G) (cl v4)) &&& 63) = 14
                                  · replace hL := (if_pos z160).symm.trans hL
                                    refine j_swIn 1145 dL_law__40 (by rw [z160]; decide) (by rw [z160]; decide) (by rw [z160]; rfl) (by decide) ?_
                                    refine j_aload_n 1 dL_law__1145 rfl ?_
                                    refine j_aload_n 0 dL_law__1146 rfl ?_
                                    refine j_iload 4 dL_law__1147 rfl ?_
                                    refine j_iconst 1 dL_law__1149 (by decide) ?_
                                    refine j_iadd dL_law__1150 ?_
                                    obtain ⟨g161, hL⟩ := gd_ex hL
                                    refine j_scr (ib_in g161) dL_law__1151 ?_
                                    refine j_aload_n 0 dL_law__1152 rfl ?_
                                    refine j_iload 4 dL_law__1153 rfl ?_
                                    refine j_iconst 2 dL_law__1155 (by decide) ?_
                                    refine j_iadd dL_law__1156 ?_
                                    obtain ⟨g162, hL⟩ := gd_ex hL
                                    refine j_scr (ib_in g162) dL_law__1157 ?_
                                    refine j_aload_n 0 dL_law__1158 rfl ?_
                                    refine j_iload 4 dL_law__1159 rfl ?_
                                    refine j_iconst 3 dL_law__1161 (by decide) ?_
                                    refine j_iadd dL_law__1162 ?_
                                    obtain ⟨g163, hL⟩ := gd_ex hL
                                    refine j_scr (ib_in g163) dL_law__1163 ?_
                                    refine j_aload_n 3 dL_law__1164 rfl ?_
                                    obtain ⟨q164, hq164, hL⟩ := bnd_ex hL
                                    refine j_callW (c_L_bounds G ((gS G) (cl (v4 + 1))) ((gS G) (cl (v4 + 2))) ((gS G) (cl (v4 + 3))) h _ hq164) ch_RL_168 rfl (by decide) rfl rfl (Nat.le_of_ble_eq_true rfl) dL_law__1165 (by omega) ?_
                                    refine j_istore (lv' := [(5, .int q164.1), (0, .ref (gX G)), (1, .ref (ad G 0)), (2, .ref (ad G 193)), (3, .ref (ad G 236)), (4, .int v4)]) dL_law__1168 (by decide) rfl ?_
                                    refine j_aload_n 3 dL_law__1170 rfl ?_
                                    refine j_aload_n 1 dL_law__1171 rfl ?_
                                    refine j_iload 5 dL_law__1172 rfl ?_
                                    refine j_iconst 1 dL_law__1174 (by decide) ?_
                                    refine j_iadd dL_law__1175 ?_
                                    obtain ⟨g165, hL⟩ := gd_ex hL
                                    refine j_scr (ib_in g165) dL_law__1176 ?_
                                    refine j_aload_n 1 dL_law__1177 rfl ?_
                                    refine j_iload 5 dL_law__1178 rfl ?_
                                    refine j_iconst 2 dL_law__1180 (by decide) ?_
                                    refine j_iadd dL_law__1181 ?_
                                    obtain ⟨g166, hL⟩ := gd_ex hL
                                    refine j_scr (ib_in g166) dL_law__1182 ?_
                                    refine j_aload_n 1 dL_law__1183 rfl ?_
                                    refine j_iload 5 dL_law__1184 rfl ?_
                                    refine j_iconst 3 dL_law__1186 (by decide) ?_
                                    refine j_iadd dL_law__1187 ?_
                                    obtain ⟨g167, hL⟩ := gd_ex hL
                                    refine j_scr (ib_in g167) dL_law__1188 ?_
                                    obtain ⟨q168, hq168, hL⟩ := bnd_ex hL
                                    refine j_callVi (c_X12_bounds G ((gS G) (cl (v4 + 1))) ((gS G) (cl (v4 + 2))) ((gS G) (cl (v4 + 3))) q164.2 _ hq168) cv_RL_170 rfl sh_193 (by decide) rfl (by decide) rfl rfl (Nat.le_of_ble_eq_true rfl) dL_law__1189 (by omega) ?_
                                    refine j_istore (lv' := [(6, .int q168.1), (5, .int q164.1), (0, .ref (gX G)), (1, .ref (ad G 0)), (2, .ref (ad G 193)), (3, .ref (ad G 236)), (4, .int v4)]) dL_law__1192 (by decide) rfl ?_
                                    refine j_aload_n 4 dL_law__1194 rfl ?_
                                    refine j_callVi (c_X12_thrown G  q168.2) cv_RL_124 rfl sh_193 (by decide) rfl (by decide) rfl rfl (Nat.le_of_ble_eq_true rfl) dL_law__1195 (by omega) ?_
                                    refine j_iload 1 dL_law__1198 rfl ?_
                                    refine j_icmp_eq 1205 dL_law__1200 (by decide) (fun z169 => ?_) (fun z169 => ?_)
                                    · replace hL := (if_pos z169).symm.trans hL
                                      refine j_iload 1 dL_law__1205 rfl ?_
                                      refine j_if_ne 1222 dL_law__1207 (by decide) (fun z170 => ?_) (fun z170 => ?_)
                                      · replace hL := (if_neg z170).symm.trans hL
                                        refine j_goto 2466 dL_law__1222 (by decide) ?_
                                        refine j_iinc (lv' := [(4, .int (v4 + 6)), (6, .int q168.1), (5, .int q164.1), (0, .ref (gX G)), (1, .ref (ad G 0)), (2, .ref (ad G 193)), (3, .ref (ad G 236))]) 6 dL_law__2466 rfl rfl (by decide) rfl ?_
                                        refine j_goto 23 dL_law__2469 (by decide) ?_
                                        refine j_sub [3, 4, 5, 6, 0] rfl ?_
                                        refine j_widen (q' := q + 8) (by omega) ?_
                                        exact ih (v4 + 6) q168.2 (q + 8) r hL (by omega) kE kR
                                      · replace hL := (if_pos z170).symm.trans hL
                                        refine j_aload_n 5 dL_law__1210 rfl ?_
                                        refine j_iconst 0 dL_law__1211 (by decide) ?_
                                        obtain ⟨g171, hL⟩ := gd_ex hL
                                        refine j_lald sh_236 (ib_in g171) dL_law__1212 ?_
                                        refine j_iload 0 dL_law__1213 rfl ?_
                                        refine j_i2l dL_law__1215 ?_
                                        refine j_lcmp dL_law__1216 ?_
                                        refine j_if_eq 1222 dL_law__1217 (by decide) (fun z172 => ?_) (fun z172 => ?_)
                                        · replace hL := (if_pos z172).symm.trans hL
                                          refine j_goto 2466 dL_law__1222 (by decide) ?_
                                          refine j_iinc (lv' := [(4, .int (v4 + 6)), (6, .int q168.1), (5, .int q164.1), (0, .ref (gX G)), (1, .ref (ad G 0)), (2, .ref (ad G 193)), (3, .ref (ad G 236))]) 6 dL_law__2466 rfl rfl (by decide) rfl ?_
                                          refine j_goto 23 dL_law__2469 (by decide) ?_
                                          refine j_sub [3, 4, 5, 6, 0] rfl ?_
                                          refine j_widen (q' := q + 8) (by omega) ?_
                                          exact ih (v4 + 6) q168.2 (q + 8) r hL (by omega) kE kR
                                        · replace hL := (if_neg z172).symm.trans hL
                                          refine j_iconst 0 dL_law__1220 (by decide) ?_
                                          cases hL
                                          exact (kR _ rfl).elim
                                    · replace hL := (if_neg z169).symm.trans hL
                                      refine j_iconst 0 dL_law__1203 (by decide) ?_
                                      cases hL
                                      exact (kR _ rfl).elim
                                  · replace hL := (if_neg z160).symm.trans hL
                                    by_cases z173 : (((gS G) (cl v4)) &&& 63) = 15
                                    · replace hL := (if_pos z173).symm.trans hL
                                      refine j_swIn 1225 dL_law__40 (by rw [z173]; decide) (by rw [z173]; decide) (by rw [z173]; rfl) (by decide) ?_
                                      refine j_aload_n 1 dL_law__1225 rfl ?_
                                      refine j_aload_n 0 dL_law__1226 rfl ?_
                                      refine j_iload 4 dL_law__1227 rfl ?_
                                      refine j_iconst 1 dL_law__1229 (by decide) ?_
                                      refine j_iadd dL_law__1230 ?_
                                      obtain ⟨g174, hL⟩ := gd_ex hL
                                      refine j_scr (ib_in g174) dL_law__1231 ?_
                                      refine j_aload_n 0 dL_law__1232 rfl ?_
                                      refine j_iload 4 dL_law__1233 rfl ?_
                                      refine j_iconst 2 dL_law__1235 (by decide) ?_
                                      refine j_iadd dL_law__1236 ?_
                                      obtain ⟨g175, hL⟩ := gd_ex hL
                                      refine j_scr (ib_in g175) dL_law__1237 ?_
                                      refine j_aload_n 3 dL_law__1238 rfl ?_
                                      obtain ⟨q176, hq176, hL⟩ := bnd_ex hL
                                      refine j_callW (c_L_light G ((gS G) (cl (v4 + 1))) ((gS G) (cl (v4 + 2))) h _ hq176) ch_RL_171 rfl (by decide) rfl rfl (Nat.le_of_ble_eq_true rfl) dL_law__1239 (by omega) ?_
                                      refine j_istore (lv' := [(5, .int q176.1), (0, .ref (gX G)), (1, .ref (ad G 0)), (2, .ref (ad G 193)), (3, .ref (ad G 236)), (4, .int v4)]) dL_law__1242 (by decide) rfl ?_
                                      refine j_aload_n 3 dL_law__1244 rfl ?_
                                      refine j_aload_n 1 dL_law__1245 rfl ?_
                                      refine j_iload 5 dL_law__1246 rfl ?_
                                      refine j_iconst 1 dL_law__1248 (by decide) ?_
                                      refine j_iadd dL_law__1249 ?_
                                      obtain ⟨g177, hL⟩ := gd_ex hL
                                      refine j_scr (ib_in g177) dL_law__1250 ?_
                                      refine j_aload_n 1 dL_law__1251 rfl ?_
                                      refine j_iload 5 dL_law__1252 rfl ?_
                                      refine j_iconst 2 dL_law__1254 (by decide) ?_
                                      refine j_iadd dL_law__1255 ?_
                                      obtain ⟨g178, hL⟩ := gd_ex hL
                                      refine j_scr (ib_in g178) dL_law__1256 ?_
                                      obtain ⟨q179, hq179, hL⟩ := bnd_ex hL
                                      refine j_callVi (c_X12_light G ((gS G) (cl (v4 + 1))) ((gS G) (cl (v4 + 2))) q176.2 _ hq179) cv_RL_173 rfl sh_193 (by decide) rfl (by decide) rfl rfl (Nat.le_of_ble_eq_true rfl) dL_law__1257 (by omega) ?_
                                      refine j_istore (lv' := [(6, .int q179.1), (5, .int q176.1), (0, .ref (gX G)), (1, .ref (ad G 0)), (2, .ref (ad G 193)), (3, .ref (ad G 236)), (4, .int v4)]) dL_law__1260 (by decide) rfl ?_
                                      refine j_aload_n 4 dL_law__1262 rfl ?_
                                      refine j_callVi (c_X12_thrown G  q179.2) cv_RL_124 rfl sh_193 (by decide) rfl (by decide) rfl rfl (Nat.le_of_ble_eq_true rfl) dL_law__1263 (by omega) ?_
                                      refine j_iload 1 dL_law__1266 rfl ?_
                                      refine j_icmp_eq 1273 dL_law__1268 (by decide) (fun z180 => ?_) (fun z180 => ?_)
                                      · replace hL := (if_pos z180).symm.trans hL
                                        refine j_iload 1 dL_law__1273 rfl ?_
                                        refine j_if_ne 1290 dL_law__1275 (by decide) (fun z181 => ?_) (fun z181 => ?_)
                                        · replace hL := (if_neg z181).symm.trans hL
                                          refine j_goto 2466 dL_law__1290 (by decide) ?_
                                          refine j_iinc (lv' := [(4, .int (v4 + 6)), (6, .int q179.1), (5, .int q176.1), (0, .ref (gX G)), (1, .ref (ad G 0)), (2, .ref (ad G 193)), (3, .ref (ad G 236))]) 6 dL_law__2466 rfl rfl (by decide) rfl ?_
                                          refine j_goto 23 dL_law__2469 (by decide) ?_
                                          refine j_sub [3, 4, 5, 6, 0] rfl ?_
                                          refine j_widen (q' := q + 8) (by omega) ?_
                                          exact ih (v4 + 6) q179.2 (q + 8) r hL (by omega) kE kR
                                        · replace hL := (if_pos z181).symm.trans hL
                                          refine j_aload_n 5 dL_law__1278 rfl ?_
                                          refine j_iconst 0 dL_law__1279 (by decide) ?_
                                          obtain ⟨g182, hL⟩ := gd_ex hL
                                          refine j_lald sh_236 (ib_in g182) dL_law__1280 ?_
                                          refine j_iload 0 dL_law__1281 rfl ?_
                                          refine j_i2l dL_law__1283 ?_
                                          refine j_lcmp dL_law__1284 ?_
                                          refine j_if_eq 1290 dL_law__1285 (by decide) (fun z183 => ?_) (fun z183 => ?_)
                                          · replace hL := (if_pos z183).symm.trans hL
                                            refine j_goto 2466 dL_law__1290 (by decide) ?_
                                            refine j_iinc (lv' := [(4, .int (v4 + 6)), (6, .int q179.1), (5, .int q176.1), (0, .ref (gX G)), (1, .ref (ad G 0)), (2, .ref (ad G 193)), (3, .ref (ad G 236))]) 6 dL_law__2466 rfl rfl (by decide) rfl ?_
                                            refine j_goto 23 dL_law__2469 (by decide) ?_
                                            refine j_sub [3, 4, 5, 6, 0] rfl ?_
                                            refine j_widen (q' := q + 8) (by omega) ?_
                                            exact ih (v4 + 6) q179.2 (q + 8) r hL (by omega) kE kR
                                          · replace hL := (if_neg z183).symm.trans hL
                                            refine j_iconst 0 dL_law__1288 (by decide) ?_
                                            cases hL
                                            exact (kR _ rfl).elim
                                      · replace hL := (if_neg z180).symm.trans hL
                                        refine j_iconst 0 dL_law__1271 (by decide) ?_
                                        cases hL
                                        exact (kR _ rfl).elim
                                    · replace hL := (if_neg z173).symm.trans hL
                                      by_cases z184 : (((gS G) (cl v4)) &&& 63) = 16
                                      · replace hL := (if_pos z184).symm.trans hL
                                        refine j_swIn 1293 dL_law__40 (by rw [z184]; decide) (by rw [z184]; decide) (by rw [z184]; rfl) (by decide) ?_
                                        refine j_aload_n 1 dL_law__1293 rfl ?_
                                        refine j_aload_n 0 dL_law__1294 rfl ?_
                                        refine j_iload 4 dL_law__1295 rfl ?_
                                        refine j_iconst 1 dL_law__1297 (by decide) ?_
                                        refine j_iadd dL_law__1298 ?_
                                        obtain ⟨g185, hL⟩ := gd_ex hL
                                        refine j_scr (ib_in g185) dL_law__1299 ?_
                                        refine j_aload_n 0 dL_law__1300 rfl ?_
                                        refine j_iload 4 dL_law__1301 rfl ?_
                                        refine j_iconst 2 dL_law__1303 (by decide) ?_
                                        refine j_iadd dL_law__1304 ?_
                                        obtain ⟨g186, hL⟩ := gd_ex hL
                                        refine j_scr (ib_in g186) dL_law__1305 ?_
                                        refine j_aload_n 3 dL_law__1306 rfl ?_
                                        obtain ⟨q187, hq187, hL⟩ := bnd_ex hL
                                        refine j_callW (c_L_sleepy G ((gS G) (cl (v4 + 1))) ((gS G) (cl (v4 + 2))) h _ hq187) ch_RL_174 rfl (by decide) rfl rfl (Nat.le_of_ble_eq_true rfl) dL_law__1307 (by omega) ?_
                                        refine j_istore (lv' := [(5, .int q187.1), (0, .ref (gX G)), (1, .ref (ad G 0)), (2, .ref (ad G 193)), (3, .ref (ad G 236)), (4, .int v4)]) dL_law__1310 (by decide) rfl ?_
                                        refine j_aload_n 3 dL_law__1312 rfl ?_
                                        refine j_aload_n 1 dL_law__1313 rfl ?_
                                        refine j_iload 5 dL_law__1314 rfl ?_
                                        refine j_iconst 1 dL_law__1316 (by decide) ?_
                                        refine j_iadd dL_law__1317 ?_
                                        obtain ⟨g188, hL⟩ := gd_ex hL
                                        refine j_scr (ib_in g188) dL_law__1318 ?_
                                        refine j_aload_n 1 dL_law__1319 rfl ?_
                                        refine j_iload 5 dL_law__1320 rfl ?_
                                        refine j_iconst 2 dL_law__1322 (by decide) ?_
                                        refine j_iadd dL_law__1323 ?_
                                        obtain ⟨g189, hL⟩ := gd_ex hL
                                        refine j_scr (ib_in g189) dL_law__1324 ?_
                                        obtain ⟨q190, hq190, hL⟩ := bnd_ex hL
                                        refine j_callVi (c_X12_sleepy G ((gS G) (cl (v4 + 1))) ((gS G) (cl (v4 + 2))) q187.2 _ hq190) cv_RL_176 rfl sh_193 (by decide) rfl (by decide) rfl rfl (Nat.le_of_ble_eq_true rfl) dL_law__1325 (by omega) ?_
                                        refine j_istore (lv' := [(6, .int q190.1), (5, .int q187.1), (0, .ref (gX G)), (1, .ref (ad G 0)), (2, .ref (ad G 193)), (3, .ref (ad G 236)), (4, .int v4)]) dL_law__1328 (by decide) rfl ?_
                                        refine j_aload_n 4 dL_law__1330 rfl ?_
                                        refine j_callVi (c_X12_thrown G  q190.2) cv_RL_124 rfl sh_193 (by decide) rfl (by decide) rfl rfl (Nat.le_of_ble_eq_true rfl) dL_law__1331 (by omega) ?_
                                        refine j_iload 1 dL_law__1334 rfl ?_
                                        refine j_icmp_eq 1341 dL_law__1336 (by decide) (fun z191 => ?_) (fun z191 => ?_)
                                        · replace hL := (if_pos z191).symm.trans hL
                                          refine j_iload 1 dL_law__1341 rfl ?_
                                          refine j_if_ne 1358 dL_law__1343 (by decide) (fun z192 => ?_) (fun z192 => ?_)
                                          · replace hL := (if_neg z192).symm.trans hL
                                            refine j_goto 2466 dL_law__1358 (by decide) ?_
                                            refine j_iinc (lv' := [(4, .int (v4 + 6)), (6, .int q190.1), (5, .int q187.1), (0, .ref (gX G)), (1, .ref (ad G 0)), (2, .ref (ad G 193)), (3, .ref (ad G 236))]) 6 dL_law__2466 rfl rfl (by decide) rfl ?_
                                            refine j_goto 23 dL_law__2469 (by decide) ?_
                                            refine j_sub [3, 4, 5, 6, 0] rfl ?_
                                            refine j_widen (q' := q + 8) (by omega) ?_
                                            exact ih (v4 + 6) q190.2 (q + 8) r hL (by omega) kE kR
                                          · replace hL := (if_pos z192).symm.trans hL
                                            refine j_aload_n 5 dL_law__1346 rfl ?_
                                            refine j_iconst 0 dL_law__1347 (by decide) ?_
                                            obtain ⟨g193, hL⟩ := gd_ex hL
                                            refine j_lald sh_236 (ib_in g193) dL_law__1348 ?_
                                            refine j_iload 0 dL_law__1349 rfl ?_
                                            refine j_i2l dL_law__1351 ?_
                                            refine j_lcmp dL_law__1352 ?_
                                            refine j_if_eq 1358 dL_law__1353 (by decide) (fun z194 => ?_) (fun z194 => ?_)
                                            · replace hL := (if_pos z194).symm.trans hL
                                              refine j_goto 2466 dL_law__1358 (by decide) ?_
                                              refine j_iinc (lv' := [(4, .int (v4 + 6)), (6, .int q190.1), (5, .int q187.1), (0, .ref (gX G)), (1, .ref (ad G 0)), (2, .ref (ad G 193)), (3, .ref (ad G 236))]) 6 dL_law__2466 rfl rfl (by decide) rfl ?_
                                              refine j_goto 23 dL_law__2469 (by decide) ?_
                                              refine j_sub [3, 4, 5, 6, 0] rfl ?_
                                              refine j_widen (q' := q + 8) (by omega) ?_
                                              exact ih (v4 + 6) q190.2 (q + 8) r hL (by omega) kE kR
                                            · replace hL := (if_neg z194).symm.trans hL
                                              refine j_iconst 0 dL_law__1356 (by decide) ?_
                                              cases hL
                                              exact (kR _ rfl).elim
                                        · replace hL := (if_neg z191).symm.trans hL
                                          refine j_iconst 0 dL_law__1339 (by decide) ?_
                                          cases hL
                                          exact (kR _ rfl).elim
                                      · replace hL := (if_neg z184).symm.trans hL
                                        by_cases z195 : (((gS G) (cl v4)) &&& 63) = 17
                                        · replace hL := (if_pos z195).symm.trans hL
                                          refine j_swIn 1361 dL_law__40 (by rw [z195]; decide) (by rw [z195]; decide) (by rw [z195]; rfl) (by decide) ?_
                                          refine j_aload_n 1 dL_law__1361 rfl ?_
                                          refine j_aload_n 0 dL_law__1362 rfl ?_
                                          refine j_iload 4 dL_law__1363 rfl ?_
                                          refine j_iconst 1 dL_law__1365 (by decide) ?_
                                          refine j_iadd dL_law__1366 ?_
                                          obtain ⟨g196, hL⟩ := gd_ex hL
                                          refine j_scr (ib_in g196) dL_law__1367 ?_
                                          refine j_aload_n 0 dL_law__1368 rfl ?_
                                          refine j_iload 4 dL_law__1369 rfl ?_
                                          refine j_iconst 2 dL_law__1371 (by decide) ?_
                                          refine j_iadd dL_law__1372 ?_
                                          obtain ⟨g197, hL⟩ := gd_ex hL
                                          refine j_scr (ib_in g197) dL_law__1373 ?_
                                          refine j_aload_n 3 dL_law__1374 rfl ?_
                                          obtain ⟨q198, hq198, hL⟩ := bnd_ex hL
                                          refine j_callW (c_L_humps G ((gS G) (cl (v4 + 1))) ((gS G) (cl (v4 + 2))) h _ hq198) ch_RL_177 rfl (by decide) rfl rfl (Nat.le_of_ble_eq_true rfl) dL_law__1375 (by omega) ?_
                                          refine j_istore (lv' := [(5, .int q198.1), (0, .ref (gX G)), (1, .ref (ad G 0)), (2, .ref (ad G 193)), (3, .ref (ad G 236)), (4, .int v4)]) dL_law__1378 (by decide) rfl ?_
                                          refine j_aload_n 3 dL_law__1380 rfl ?_
                                          refine j_aload_n 1 dL_law__1381 rfl ?_
                                          refine j_iload 5 dL_law__1382 rfl ?_
                                          refine j_iconst 1 dL_law__1384 (by decide) ?_
                                          refine j_iadd dL_law__1385 ?_
                                          obtain ⟨g199, hL⟩ := gd_ex hL
                                          refine j_scr (ib_in g199) dL_law__1386 ?_
                                          refine j_aload_n 1 dL_law__1387 rfl ?_
                                          refine j_iload 5 dL_law__1388 rfl ?_
                                          refine j_iconst 2 dL_law__1390 (by decide) ?_
                                          refine j_iadd dL_law__1391 ?_
                                          obtain ⟨g200, hL⟩ := gd_ex hL
                                          refine j_scr (ib_in g200) dL_law__1392 ?_
                                          obtain ⟨q201, hq201, hL⟩ := bnd_ex hL
                                          refine j_callVl (c_X12_humps G ((gS G) (cl (v4 + 1))) ((gS G) (cl (v4 + 2))) q198.2 _ hq201) cv_RL_179 rfl sh_193 (by decide) rfl (by decide) rfl rfl (Nat.le_of_ble_eq_true rfl) dL_law__1393 (by omega) ?_
                                          refine j_lstore (lv' := [(6, .long q201.1), (5, .int q198.1), (0, .ref (gX G)), (1, .ref (ad G 0)), (2, .ref (ad G 193)), (3, .ref (ad G 236)), (4, .int v4)]) dL_law__1396 (by decide) rfl ?_
                                          refine j_aload_n 4 dL_law__1398 rfl ?_
                                          refine j_callVi (c_X12_thrown G  q201.2) cv_RL_124 rfl sh_193 (by decide) rfl (by decide) rfl rfl (Nat.le_of_ble_eq_true rfl) dL_law__1399 (by omega) ?_
                                          refine j_iload 1 dL_law__1402 rfl ?_
                                          refine j_icmp_eq 1409 dL_law__1404 (by decide) (fun z202 => ?_) (fun z202 => ?_)
                                          · replace hL := (if_pos z202).symm.trans hL
                                            refine j_iload 1 dL_law__1409 rfl ?_
                                            refine j_if_ne 1425 dL_law__1411 (by decide) (fun z203 => ?_) (fun z203 => ?_)
                                            · replace hL := (if_neg z203).symm.trans hL
                                              refine j_goto 2466 dL_law__1425 (by decide) ?_
                                              refine j_iinc (lv' := [(4, .int (v4 + 6)), (6, .long q201.1), (5, .int q198.1), (0, .ref (gX G)), (1, .ref (ad G 0)), (2, .ref (ad G 193)), (3, .ref (ad G 236))]) 6 dL_law__2466 rfl rfl (by decide) rfl ?_
                                              refine j_goto 23 dL_law__2469 (by decide) ?_
                                              refine j_sub [3, 4, 5, 6, 0] rfl ?_
                                              refine j_widen (q' := q + 8) (by omega) ?_
                                              exact ih (v4 + 6) q201.2 (q + 8) r hL (by omega) kE kR
                                            · replace hL := (if_pos z203).symm.trans hL
                                              refine j_aload_n 5 dL_law__1414 rfl ?_
                                              refine j_iconst 0 dL_law__1415 (by decide) ?_
                                              obtain ⟨g204, hL⟩ := gd_ex hL
                                              refine j_lald sh_236 (ib_in g204) dL_law__1416 ?_
                                              refine j_lload 0 dL_law__1417 rfl ?_
                                              refine j_lcmp dL_law__1419 ?_
                                              refine j_if_eq 1425 dL_law__1420 (by decide) (fun z205 => ?_) (fun z205 => ?_)
                                              · replace hL := (if_pos z205).symm.trans hL
                                                refine j_goto 2466 dL_law__1425 (by decide) ?_
                                                refine j_iinc (lv' := [(4, .int (v4 + 6)), (6, .long q201.1), (5, .int q198.1), (0, .ref (gX G)), (1, .ref (ad G 0)), (2, .ref (ad G 193)), (3, .ref (ad G 236))]) 6 dL_law__2466 rfl rfl (by decide) rfl ?_
                                                refine j_goto 23 dL_law__2469 (by decide) ?_
                                                refine j_sub [3, 4, 5, 6, 0] rfl ?_
                                                refine j_widen (q' := q + 8) (by omega) ?_
                                                exact ih (v4 + 6) q201.2 (q + 8) r hL (by omega) kE kR
                                              · replace hL := (if_neg z205).symm.trans hL
                                                refine j_iconst 0 dL_law__1423 (by decide) ?_
                                                cases hL
                                                exact (kR _ rfl).elim
                                          · replace hL := (if_neg z202).symm.trans hL
                                            refine j_iconst 0 dL_law__1407 (by decide) ?_
                                            cases hL
                                            exact (kR _ rfl).elim
                                        · replace hL := (if_neg z195).symm.trans hL
                                          by_cases z206 : (((gS G) (cl v4)) &&& 63) = 18
                                          · replace hL := (if_pos z206).symm.trans hL
                                            refine j_swIn 1428 dL_law__40 (by rw [z206]; decide) (by rw [z206]; decide) (by rw [z206]; rfl) (by decide) ?_
                                            refine j_aload_n 1 dL_law__1428 rfl ?_
                                            refine j_aload_n 0 dL_law__1429 rfl ?_
                                            refine j_iload 4 dL_law__1430 rfl ?_
                                            refine j_iconst 1 dL_law__1432 (by decide) ?_
                                            refine j_iadd dL_law__1433 ?_
                                            obtain ⟨g207, hL⟩ := gd_ex hL
                                            refine j_scr (ib_in g207) dL_law__1434 ?_
                                            refine j_aload_n 0 dL_law__1435 rfl ?_
                                            refine j_iload 4 dL_law__1436 rfl ?_
                                            refine j_iconst 2 dL_law__1438 (by decide) ?_
                                            refine j_iadd dL_law__1439 ?_
                                            obtain ⟨g208, hL⟩ := gd_ex hL
                                            refine j_scr (ib_in g208) dL_law__1440 ?_
                                            refine j_aload_n 0 dL_law__1441 rfl ?_
                                            refine j_iload 4 dL_law__1442 rfl ?_
                                            refine j_iconst 3 dL_law__1444 (by decide) ?_
                                            refine j_iadd dL_law__1445 ?_
                                            obtain ⟨g209, hL⟩ := gd_ex hL
                                            refine j_scr (ib_in g209) dL_law__1446 ?_
                                            refine j_aload_n 3 dL_law__1447 rfl ?_
                                            obtain ⟨q210, hq210, hL⟩ := bnd_ex hL
                                            refine j_callW (c_L_hump G ((gS G) (cl (v4 + 1))) ((gS G) (cl (v4 + 2))) ((gS G) (cl (v4 + 3))) h _ hq210) ch_RL_180 rfl (by decide) rfl rfl (Nat.le_of_ble_eq_true rfl) dL_law__1448 (by omega) ?_
                                            refine j_istore (lv' := [(5, .int q210.1), (0, .ref (gX G)), (1, .ref (ad G 0)), (2, .ref (ad G 193)), (3, .ref (ad G 236)), (4, .int v4)]) dL_law__1451 (by decide) rfl ?_
                                            refine j_aload_n 3 dL_law__1453 rfl ?_
                                            refine j_aload_n 1 dL_law__1454 rfl ?_
                                            refine j_iload 5 dL_law__1455 rfl ?_
                                            refine j_iconst 1 dL_law__1457 (by decide) ?_
                                            refine j_iadd dL_law__1458 ?_
                                            obtain ⟨g211, hL⟩ := gd_ex hL
                                            refine j_scr (ib_in g211) dL_law__1459 ?_
                                            refine j_aload_n 1 dL_law__1460 rfl ?_
                                            refine j_iload 5 dL_law__1461 rfl ?_
                                            refine j_iconst 2 dL_law__1463 (by decide) ?_
                                            refine j_iadd dL_law__1464 ?_
                                            obtain ⟨g212, hL⟩ := gd_ex hL
                                            refine j_scr (ib_in g212) dL_law__1465 ?_
                                            refine j_aload_n 1 dL_law__1466 rfl ?_
                                            refine j_iload 5 dL_law__1467 rfl ?_
                                            refine j_iconst 3 dL_law__1469 (by decide) ?_
                                            refine j_iadd dL_law__1470 ?_
                                            obtain ⟨g213, hL⟩ := gd_ex hL
                                            refine j_scr (ib_in g213) dL_law__1471 ?_
                                            obtain ⟨q214, hq214, hL⟩ := bnd_ex hL
                                            refine j_callVi (c_X12_hump G ((gS G) (cl (v4 + 1))) ((gS G) (cl (v4 + 2))) ((gS G) (cl (v4 + 3))) q210.2 _ hq214) cv_RL_182 rfl sh_193 (by decide) rfl (by decide) rfl rfl (Nat.le_of_ble_eq_true rfl) dL_law__1472 (by omega) ?_
                                            refine j_istore (lv' := [(6, .int q214.1), (5, .int q210.1), (0, .ref (gX G)), (1, .ref (ad G 0)), (2, .ref (ad G 193)), (3, .ref (ad G 236)), (4, .int v4)]) dL_law__1475 (by decide) rfl ?_
                                            refine j_aload_n 4 dL_law__1477 rfl ?_
                                            refine j_callVi (c_X12_thrown G  q214.2) cv_RL_124 rfl sh_193 (by decide) rfl (by decide) rfl rfl (Nat.le_of_ble_eq_true rfl) dL_law__1478 (by omega) ?_
                                            refine j_iload 1 dL_law__1481 rfl ?_
                                            refine j_icmp_eq 1488 dL_law__1483 (by decide) (fun z215 => ?_) (fun z215 => ?_)
                                            · replace hL := (if_pos z215).symm.trans hL
                                              refine j_iload 1 dL_law__1488 rfl ?_
                                              refine j_if_ne 1505 dL_law__1490 (by decide) (fun z216 => ?_) (fun z216 => ?_)
                                              · replace hL := (if_neg z216).symm.trans hL
                                                refine j_goto 2466 dL_law__1505 (by decide) ?_
                                                refine j_iinc (lv' := [(4, .int (v4 + 6)), (6, .int q214.1), (5, .int q210.1), (0, .ref (gX G)), (1, .ref (ad G 0)), (2, .ref (ad G 193)), (3, .ref (ad G 236))]) 6 dL_law__2466 rfl rfl (by decide) rfl ?_
                                                refine j_goto 23 dL_law__2469 (by decide) ?_
                                                refine j_sub [3, 4, 5, 6, 0] rfl ?_
                                                refine j_widen (q' := q + 8) (by omega) ?_
                                                exact ih (v4 + 6) q214.2 (q + 8) r hL (by omega) kE kR
                                              · replace hL := (if_pos z216).symm.trans hL
                                                refine j_aload_n 5 dL_law__1493 rfl ?_
                                                refine j_iconst 0 dL_law__1494 (by decide) ?_
                                                obtain ⟨g217, hL⟩ := gd_ex hL
                                                refine j_lald sh_236 (ib_in g217) dL_law__1495 ?_
                                                refine j_iload 0 dL_law__1496 rfl ?_
                                                refine j_i2l dL_law__1498 ?_
                                                refine j_lcmp dL_law__1499 ?_
                                                refine j_if_eq 1505 dL_law__1500 (by decide) (fun z218 => ?_) (fun z218 => ?_)
                                                · replace hL := (if_pos z218).symm.trans hL
                                                  refine j_goto 2466 dL_law__1505 (by decide) ?_
                                                  refine j_iinc (lv' := [(4, .int (v4 + 6)), (6, .int q214.1), (5, .int q210.1), (0, .ref (gX G)), (1, .ref (ad G 0)), (2, .ref (ad G 193)), (3, .ref (ad G 236))]) 6 dL_law__2466 rfl rfl (by decide) rfl ?_
                                                  refine j_goto 23 dL_law__2469 (by decide) ?_
                                                  refine j_sub [3, 4, 5, 6, 0] rfl ?_
                                                  refine j_widen (q' := q + 8) (by omega) ?_
                                                  exact ih (v4 + 6) q214.2 (q + 8) r hL (by omega) kE kR
                                                · replace hL := (if_neg z218).symm.trans hL
                                                  refine j_iconst 0 dL_law__1503 (by decide) ?_
                                                  cases hL
                                                  exact (kR _ rfl).elim
                                            · replace hL := (if_neg z215).symm.trans hL
                                              refine j_iconst 0 dL_law__1486 (by decide) ?_
                                              cases hL
                                              exact (kR _ rfl).elim
                                          · replace hL := (if_neg z206).symm.trans hL
                                            by_cases z219 : (((gS G) (cl v4)) &&& 63) = 19
                                            · replace hL := (if_pos z219).symm.trans hL
                                              refine j_swIn 1508 dL_law__40 (by rw [z219]; decide) (by rw [z219]; decide) (by rw [z219]; rfl) (by decide) ?_
                                              refine j_aload_n 1 dL_law__1508 rfl ?_
                                              refine j_aload_n 0 dL_law__1509 rfl ?_
                                              refine j_iload 4 dL_law__1510 rfl ?_
                                              refine j_iconst 1 dL_law__1512 (by decide) ?_
                                              refine j_iadd dL_law__1513 ?_
                                              obtain ⟨g220, hL⟩ := gd_ex hL
                                              refine j_scr (ib_in g220) dL_law__1514 ?_
                                              refine j_aload_n 0 dL_law__1515 rfl ?_
                                              refine j_iload 4 dL_law__1516 rfl ?_
                                              refine j_iconst 2 dL_law__1518 (by decide) ?_
                                              refine j_iadd dL_law__1519 ?_
                                              obtain ⟨g221, hL⟩ := gd_ex hL
                                              refine j_scr (ib_in g221) dL_law__1520 ?_
                                              refine j_aload_n 0 dL_law__1521 rfl ?_
                                              refine j_iload 4 dL_law__1522 rfl ?_
                                              refine j_iconst 3 dL_law__1524 (by decide) ?_
                                              refine j_iadd dL_law__1525 ?_
                                              obtain ⟨g222, hL⟩ := gd_ex hL
                                              refine j_scr (ib_in g222) dL_law__1526 ?_
                                              refine j_aload_n 3 dL_law__1527 rfl ?_
                                              obtain ⟨q223, hq223, hL⟩ := bnd_ex hL
                                              refine j_callW (c_L_fitted G ((gS G) (cl (v4 + 1))) ((gS G) (cl (v4 + 2))) ((gS G) (cl (v4 + 3))) h _ hq223) ch_RL_183 rfl (by decide) rfl rfl (Nat.le_of_ble_eq_true rfl) dL_law__1528 (by omega) ?_
                                              refine j_istore (lv' := [(5, .int q223.1), (0, .ref (gX G)), (1, .ref (ad G 0)), (2, .ref (ad G 193)), (3, .ref (ad G 236)), (4, .int v4)]) dL_law__1531 (by decide) rfl ?_
                                              refine j_aload_n 3 dL_law__1533 rfl ?_
                                              refine j_aload_n 1 dL_law__1534 rfl ?_
                                              refine j_iload 5 dL_law__1535 rfl ?_
                                              refine j_iconst 1 dL_law__1537 (by decide) ?_
                                              refine j_iadd dL_law__1538 ?_
                                              obtain ⟨g224, hL⟩ := gd_ex hL
                                              refine j_scr (ib_in g224) dL_law__1539 ?_
                                              refine j_aload_n 1 dL_law__1540 rfl ?_
                                              refine j_iload 5 dL_law__1541 rfl ?_
                                              refine j_iconst 2 dL_law__1543 (by decide) ?_
                                              refine j_iadd dL_law__1544 ?_
                                              obtain ⟨g225, hL⟩ := gd_ex hL
                                              refine j_scr (ib_in g225) dL_law__1545 ?_
                                              refine j_aload_n 1 dL_law__1546 rfl ?_
                                              refine j_iload 5 dL_law__1547 rfl ?_
                                              refine j_iconst 3 dL_law__1549 (by decide) ?_
                                              refine j_iadd dL_law__1550 ?_
                                              obtain ⟨g226, hL⟩ := gd_ex hL
                                              refine j_scr (ib_in g226) dL_law__1551 ?_
                                              obtain ⟨q227, hq227, hL⟩ := bnd_ex hL
                                              refine j_callVi (c_X12_fitted G ((gS G) (cl (v4 + 1))) ((gS G) (cl (v4 + 2))) ((gS G) (cl (v4 + 3))) q223.2 _ hq227) cv_RL_185 rfl sh_193 (by decide) rfl (by decide) rfl rfl (Nat.le_of_ble_eq_true rfl) dL_law__1552 (by omega) ?_
                                              refine j_istore (lv' := [(6, .int q227.1), (5, .int q223.1), (0, .ref (gX G)), (1, .ref (ad G 0)), (2, .ref (ad G 193)), (3, .ref (ad G 236)), (4, .int v4)]) dL_law__1555 (by decide) rfl ?_
                                              refine j_aload_n 4 dL_law__1557 rfl ?_
                                              refine j_callVi (c_X12_thrown G  q227.2) cv_RL_124 rfl sh_193 (by decide) rfl (by decide) rfl rfl (Nat.le_of_ble_eq_true rfl) dL_law__1558 (by omega) ?_
                                              refine j_iload 1 dL_law__1561 rfl ?_
                                              refine j_icmp_eq 1568 dL_law__1563 (by decide) (fun z228 => ?_) (fun z228 => ?_)
                                              · replace hL := (if_pos z228).symm.trans hL
                                                refine j_iload 1 dL_law__1568 rfl ?_
                                                refine j_if_ne 1585 dL_law__1570 (by decide) (fun z229 => ?_) (fun z229 => ?_)
                                                · replace hL := (if_neg z229).symm.trans hL
                                                  refine j_goto 2466 dL_law__1585 (by decide) ?_
                                                  refine j_iinc (lv' := [(4, .int (v4 + 6)), (6, .int q227.1), (5, .int q223.1), (0, .ref (gX G)), (1, .ref (ad G 0)), (2, .ref (ad G 193)), (3, .ref (ad G 236))]) 6 dL_law__2466 rfl rfl (by decide) rfl ?_
                                                  refine j_goto 23 dL_law__2469 (by decide) ?_
                                                  refine j_sub [3, 4, 5, 6, 0] rfl ?_
                                                  refine j_widen (q' := q + 8) (by omega) ?_
                                                  exact ih (v4 + 6) q227.2 (q + 8) r hL (by omega) kE kR
                                                · replace hL := (if_pos z229).symm.trans hL
                                                  refine j_aload_n 5 dL_law__1573 rfl ?_
                                                  refine j_iconst 0 dL_law__1574 (by decide) ?_
                                                  obtain ⟨g230, hL⟩ := gd_ex hL
                                                  refine j_lald sh_236 (ib_in g230) dL_law__1575 ?_
                                                  refine j_iload 0 dL_law__1576 rfl ?_
                                                  refine j_i2l dL_law__1578 ?_
                                                  refine j_lcmp dL_law__1579 ?_
                                                  refine j_if_eq 1585 dL_law__1580 (by decide) (fun z231 => ?_) (fun z231 => ?_)
                                                  · replace hL := (if_pos z231).symm.trans hL
                                                    refine j_goto 2466 dL_law__1585 (by decide) ?_
                                                    refine j_iinc (lv' := [(4, .int (v4 + 6)), (6, .int q227.1), (5, .int q223.1), (0, .ref (gX G)), (1, .ref (ad G 0)), (2, .ref (ad G 193)), (3, .ref (ad G 236))]) 6 dL_law__2466 rfl rfl (by decide) rfl ?_
                                                    refine j_goto 23 dL_law__2469 (by decide) ?_
                                                    refine j_sub [3, 4, 5, 6, 0] rfl ?_
                                                    refine j_widen (q' := q + 8) (by omega) ?_
                                                    exact ih (v4 + 6) q227.2 (q + 8) r hL (by omega) kE kR
                                                  · replace hL := (if_neg z231).symm.trans hL
                                                    refine j_iconst 0 dL_law__1583 (by decide) ?_
                                                    cases hL
                                                    exact (kR _ rfl).elim
                                              · replace hL := (if_neg z228).symm.trans hL
                                                refine j_iconst 0 dL_law__1566 (by decide) ?_
                                                cases hL
                                                exact (kR _ rfl).elim
                                            · replace hL := (if_neg z219).symm.trans hL
                                              by_cases z232 : (((gS G) (cl v4)) &&& 63) = 20
                                              · replace hL := (if_pos z232).symm.trans hL
                                                refine j_swIn 1588 dL_law__40 (by rw [z232]; decide) (by rw [z232]; decide) (by rw [z232]; rfl) (by decide) ?_
                                                refine j_aload_n 1 dL_law__1588 rfl ?_
                                                refine j_aload_n 0 dL_law__1589 rfl ?_
                                                refine j_iload 4 dL_law__1590 rfl ?_
                                                refine j_iconst 1 dL_law__1592 (by decide) ?_
                                                refine j_iadd dL_law__1593 ?_
                                                obtain ⟨g233, hL⟩ := gd_ex hL
                                                refine j_scr (ib_in g233) dL_law__1594 ?_
                                                refine j_aload_n 3 dL_law__1595 rfl ?_
                                                obtain ⟨q234, hq234, hL⟩ := bnd_ex hL
                                                refine j_callW (c_L_years G ((gS G) (cl (v4 + 1))) h _ hq234) ch_RL_186 rfl (by decide) rfl rfl (Nat.le_of_ble_eq_true rfl) dL_law__1596 (by omega) ?_
                                                refine j_istore (lv' := [(5, .int q234.1), (0, .ref (gX G)), (1, .ref (ad G 0)), (2, .ref (ad G 193)), (3, .ref (ad G 236)), (4, .int v4)]) dL_law__1599 (by decide) rfl ?_
                                                refine j_aload_n 3 dL_law__1601 rfl ?_
                                                refine j_aload_n 1 dL_law__1602 rfl ?_
                                                refine j_iload 5 dL_law__1603 rfl ?_
                                                refine j_iconst 1 dL_law__1605 (by decide) ?_
                                                refine j_iadd dL_law__1606 ?_
                                                obtain ⟨g235, hL⟩ := gd_ex hL
                                                refine j_scr (ib_in g235) dL_law__1607 ?_
                                                obtain ⟨q236, hq236, hL⟩ := bnd_ex hL
                                                refine j_callVi (c_X12_years G ((gS G) (cl (v4 + 1))) q234.2 _ hq236) cv_RL_188 rfl sh_193 (by decide) rfl (by decide) rfl rfl (Nat.le_of_ble_eq_true rfl) dL_law__1608 (by omega) ?_
                                                refine j_istore (lv' := [(6, .int q236.1), (5, .int q234.1), (0, .ref (gX G)), (1, .ref (ad G 0)), (2, .ref (ad G 193)), (3, .ref (ad G 236)), (4, .int v4)]) dL_law__1611 (by decide) rfl ?_
                                                refine j_aload_n 4 dL_law__1613 rfl ?_
                                                refine j_callVi (c_X12_thrown G  q236.2) cv_RL_124 rfl sh_193 (by decide) rfl (by decide) rfl rfl (Nat.le_of_ble_eq_true rfl) dL_law__1614 (by omega) ?_
                                                refine j_iload 1 dL_law__1617 rfl ?_
                                                refine j_icmp_eq 1624 dL_law__1619 (by decide) (fun z237 => ?_) (fun z237 => ?_)
                                                · replace hL := (if_pos z237).symm.trans hL
                                                  refine j_iload 1 dL_law__1624 rfl ?_
                                                  refine j_if_ne 1641 dL_law__1626 (by decide) (fun z238 => ?_) (fun z238 => ?_)
                                                  · replace hL := (if_neg z238).symm.trans hL
                                                    refine j_goto 2466 dL_law__1641 (by decide) ?_
                                                    refine j_iinc (lv' := [(4, .int (v4 + 6)), (6, .int q236.1), (5, .int q234.1), (0, .ref (gX G)), (1, .ref (ad G 0)), (2, .ref (ad G 193)), (3, .ref (ad G 236))]) 6 dL_law__2466 rfl rfl (by decide) rfl ?_
                                                    refine j_goto 23 dL_law__2469 (by decide) ?_
                                                    refine j_sub [3, 4, 5, 6, 0] rfl ?_
                                                    refine j_widen (q' := q + 8) (by omega) ?_
                                                    exact ih (v4 + 6) q236.2 (q + 8) r hL (by omega) kE kR
                                                  · replace hL := (if_pos z238).symm.trans hL
                                                    refine j_aload_n 5 dL_law__1629 rfl ?_
                                                    refine j_iconst 0 dL_law__1630 (by decide) ?_
                                                    obtain ⟨g239, hL⟩ := gd_ex hL
                                                    refine j_lald sh_236 (ib_in g239) dL_law__1631 ?_
                                                    refine j_iload 0 dL_law__1632 rfl ?_
                                                    refine j_i2l dL_law__1634 ?_
                                                    refine j_lcmp dL_law__1635 ?_
                                                    refine j_if_eq 1641 dL_law__1636 (by decide) (fun z240 => ?_) (fun z240 => ?_)
                                                    · replace hL := (if_pos z240).symm.trans hL
                                                      refine j_goto 2466 dL_law__1641 (by decide) ?_
                                                      refine j_iinc (lv' := [(4, .int (v4 + 6)), (6, .int q236.1), (5, .int q234.1), (0, .ref (gX G)), (1, .ref (ad G 0)), (2, .ref (ad G 193)), (3, .ref (ad G 236))]) 6 dL_law__2466 rfl rfl (by decide) rfl ?_
                                                      refine j_goto 23 dL_law__2469 (by decide) ?_
                                                      refine j_sub [3, 4, 5, 6, 0] rfl ?_
                                                      refine j_widen (q' := q + 8) (by omega) ?_
                                                      exact ih (v4 + 6) q236.2 (q + 8) r hL (by omega) kE kR
                                                    · replace hL := (if_neg z240).symm.trans hL
                                                      refine j_iconst 0 dL_law__1639 (by decide) ?_
                                                      cases hL
                                                      exact (kR _ rfl).elim
                                                · replace hL := (if_neg z237).symm.trans hL
                                                  refine j_iconst 0 dL_law__1622 (by decide) ?_
                                                  cases hL
                                                  exact (kR _ rfl).elim
                                              · replace hL := (if_neg z232).symm.trans hL
                                                by_cases z241 : (((gS G) (cl v4)) &&& 63) = 21
                                                · replace hL := (if_pos z241).symm.trans hL
                                                  refine j_swIn 1644 dL_law__40 (by rw [z241]; decide) (by rw [z241]; decide) (by rw [z241]; rfl) (by decide) ?_
                                                  refine j_aload_n 1 dL_law__1644 rfl ?_
                                                  refine j_aload_n 0 dL_law__1645 rfl ?_
                                                  refine j_iload 4 dL_law__1646 rfl ?_
                                                  refine j_iconst 1 dL_law__1648 (by decide) ?_
                                                  refine j_iadd dL_law__1649 ?_
                                                  obtain ⟨g242, hL⟩ := gd_ex hL
                                                  refine j_scr (ib_in g242) dL_law__1650 ?_
                                                  refine j_aload_n 3 dL_law__1651 rfl ?_
                                                  obtain ⟨q243, hq243, hL⟩ := bnd_ex hL
                                                  refine j_callW (c_L_whose G ((gS G) (cl (v4 + 1))) h _ hq243) ch_RL_189 rfl (by decide) rfl rfl (Nat.le_of_ble_eq_true rfl) dL_law__1652 (by omega) ?_
                                                  refine j_istore (lv' := [(5, .int q243.1), (0, .ref (gX G)), (1, .ref (ad G 0)), (2, .ref (ad G 193)), (3, .ref (ad G 236)), (4, .int v4)]) dL_law__1655 (by decide) rfl ?_
                                                  refine j_aload_n 3 dL_law__1657 rfl ?_
                                                  refine j_aload_n 1 dL_law__1658 rfl ?_
                                                  refine j_iload 5 dL_law__1659 rfl ?_
                                                  refine j_iconst 1 dL_law__1661 (by decide) ?_
                                                  refine j_iadd dL_law__1662 ?_
                                                  obtain ⟨g244, hL⟩ := gd_ex hL
                                                  refine j_scr (ib_in g244) dL_law__1663 ?_
                                                  obtain ⟨q245, hq245, hL⟩ := bnd_ex hL
                                                  refine j_callVi (c_X12_whose G ((gS G) (cl (v4 + 1))) q243.2 _ hq245) cv_RL_191 rfl sh_193 (by decide) rfl (by decide) rfl rfl (Nat.le_of_ble_eq_true rfl) dL_law__1664 (by omega) ?_
                                                  refine j_istore (lv' := [(6, .int q245.1), (5, .int q243.1), (0, .ref (gX G)), (1, .ref (ad G 0)), (2, .ref (ad G 193)), (3, .ref (ad G 236)), (4, .int v4)]) dL_law__1667 (by decide) rfl ?_
                                                  refine j_aload_n 4 dL_law__1669 rfl ?_
                                                  refine j_callVi (c_X12_thrown G  q245.2) cv_RL_124 rfl sh_193 (by decide) rfl (by decide) rfl rfl (Nat.le_of_ble_eq_true rfl) dL_law__1670 (by omega) ?_
                                                  refine j_iload 1 dL_law__1673 rfl ?_
                                                  refine j_icmp_eq 1680 dL_law__1675 (by decide) (fun z246 => ?_) (fun z246 => ?_)
                                                  · replace hL := (if_pos z246).symm.trans hL
                                                    refine j_iload 1 dL_law__1680 rfl ?_
                                                    refine j_if_ne 1697 dL_law__1682 (by decide) (fun z247 => ?_) (fun z247 => ?_)
                                                    · replace hL := (if_neg z247).symm.trans hL
                                                      refine j_goto 2466 dL_law__1697 (by decide) ?_
                                                      refine j_iinc (lv' := [(4, .int (v4 + 6)), (6, .int q245.1), (5, .int q243.1), (0, .ref (gX G)), (1, .ref (ad G 0)), (2, .ref (ad G 193)), (3, .ref (ad G 236))]) 6 dL_law__2466 rfl rfl (by decide) rfl ?_
                                                      refine j_goto 23 dL_law__2469 (by decide) ?_
                                                      refine j_sub [3, 4, 5, 6, 0] rfl ?_
                                                      refine j_widen (q' := q + 8) (by omega) ?_
                                                      exact ih (v4 + 6) q245.2 (q + 8) r hL (by omega) kE kR
                                                    · replace hL := (if_pos z247).symm.trans hL
                                                      refine j_aload_n 5 dL_law__1685 rfl ?_
                                                      refine j_iconst 0 dL_law__1686 (by decide) ?_
                                                      obtain ⟨g248, hL⟩ := gd_ex hL
                                                      refine j_lald sh_236 (ib_in g248) dL_law__1687 ?_
                                                      refine j_iload 0 dL_law__1688 rfl ?_
                                                      refine j_i2l dL_law__1690 ?_
                                                      refine j_lcmp dL_law__1691 ?_
                                                      refine j_if_eq 1697 dL_law__1692 (by decide) (fun z249 => ?_) (fun z249 => ?_)
                                                      · replace hL := (if_pos z249).symm.trans hL
                                                        refine j_goto 2466 dL_law__1697 (by decide) ?_
                                                        refine j_iinc (lv' := [(4, .int (v4 + 6)), (6, .int q245.1), (5, .int q243.1), (0, .ref (gX G)), (1, .ref (ad G 0)), (2, .ref (ad G 193)), (3, .ref (ad G 236))]) 6 dL_law__2466 rfl rfl (by decide) rfl ?_
                                                        refine j_goto 23 dL_law__2469 (by decide) ?_
                                                        refine j_sub [3, 4, 5, 6, 0] rfl ?_
                                                        refine j_widen (q' := q + 8) (by omega) ?_
                                                        exact ih (v4 + 6) q245.2 (q + 8) r hL (by omega) kE kR
                                                      · replace hL := (if_neg z249).symm.trans hL
                                                        refine j_iconst 0 dL_law__1695 (by decide) ?_
                                                        cases hL
                                                        exact (kR _ rfl).elim
                                                  · replace hL := (if_neg z246).symm.trans hL
                                                    refine j_iconst 0 dL_law__1678 (by decide) ?_
                                                    cases hL
                                                    exact (kR _ rfl).elim
                                                · replace hL := (if_neg z241).symm.trans hL
                                                  by_cases z250 : (((gS G) (cl v4)) &&& 63) = 22
                                                  · replace hL := (if_pos z250).symm.trans hL
                                                    refine j_swIn 1700 dL_law__40 (by rw [z250]; decide) (by rw [z250]; decide) (by rw [z250]; rfl) (by decide) ?_
                                                    refine j_aload_n 1 dL_law__1700 rfl ?_
                                                    refine j_aload_n 0 dL_law__1701 rfl ?_
                                                    refine j_iload 4 dL_law__1702 rfl ?_
                                                    refine j_iconst 1 dL_law__1704 (by decide) ?_
                                                    refine j_iadd dL_law__1705 ?_
                                                    obtain ⟨g251, hL⟩ := gd_ex hL
                                                    refine j_scr (ib_in g251) dL_law__1706 ?_
                                                    refine j_aload_n 0 dL_law__1707 rfl ?_
                                                    refine j_iload 4 dL_law__1708 rfl ?_
                                                    refine j_iconst 2 dL_law__1710 (by decide) ?_
                                                    refine j_iadd dL_law__1711 ?_
                                                    obtain ⟨g252, hL⟩ := gd_ex hL
                                                    refine j_scr (ib_in g252) dL_law__1712 ?_
                                                    refine j_aload_n 3 dL_law__1713 rfl ?_
                                                    obtain ⟨q253, hq253, hL⟩ := bnd_ex hL
                                                    refine j_callW (c_L_order G ((gS G) (cl (v4 + 1))) ((gS G) (cl (v4 + 2))) h _ hq253) ch_RL_192 rfl (by decide) rfl rfl (Nat.le_of_ble_eq_true rfl) dL_law__1714 (by omega) ?_
                                                    refine j_istore (lv' := [(5, .int q253.1), (0, .ref (gX G)), (1, .ref (ad G 0)), (2, .ref (ad G 193)), (3, .ref (ad G 236)), (4, .int v4)]) dL_law__1717 (by decide) rfl ?_
                                                    refine j_aload_n 3 dL_law__1719 rfl ?_
                                                    refine j_aload_n 1 dL_law__1720 rfl ?_
                                                    refine j_iload 5 dL_law__1721 rfl ?_
                                                    refine j_iconst 1 dL_law__1723 (by decide) ?_
                                                    refine j_iadd dL_law__1724 ?_
                                                    obtain ⟨g254, hL⟩ := gd_ex hL
                                                    refine j_scr (ib_in g254) dL_law__1725 ?_
                                                    refine j_aload_n 1 dL_law__1726 rfl ?_
                                                    refine j_iload 5 dL_law__1727 rfl ?_
                                                    refine j_iconst 2 dL_law__1729 (by decide) ?_
                                                    refine j_iadd dL_law__1730 ?_
                                                    obtain ⟨g255, hL⟩ := gd_ex hL
                                                    refine j_scr (ib_in g255) dL_law__1731 ?_
                                                    obtain ⟨q256, hq256, hL⟩ := bnd_ex hL
                                                    refine j_callVi (c_X12_order G ((gS G) (cl (v4 + 1))) ((gS G) (cl (v4 + 2))) q253.2 _ hq256) cv_RL_194 rfl sh_193 (by decide) rfl (by decide) rfl rfl (Nat.le_of_ble_eq_true rfl) dL_law__1732 (by omega) ?_
                                                    refine j_istore (lv' := [(6, .int q256.1), (5, .int q253.1), (0, .ref (gX G)), (1, .ref (ad G 0)), (2, .ref (ad G 193)), (3, .ref (ad G 236)), (4, .int v4)]) dL_law__1735 (by decide) rfl ?_
                                                    refine j_aload_n 4 dL_law__1737 rfl ?_
                                                    refine j_callVi (c_X12_thrown G  q256.2) cv_RL_124 rfl sh_193 (by decide) rfl (by decide) rfl rfl (Nat.le_of_ble_eq_true rfl) dL_law__1738 (by omega) ?_
                                                    refine j_iload 1 dL_law__1741 rfl ?_
                                                    refine j_icmp_eq 1748 dL_law__1743 (by decide) (fun z257 => ?_) (fun z257 => ?_)
                                                    · replace hL := (if_pos z257).symm.trans hL
                                                      refine j_iload 1 dL_law__1748 rfl ?_
                                                      refine j_if_ne 1765 dL_law__1750 (by decide) (fun z258 => ?_) (fun z258 => ?_)
                                                      · replace hL := (if_neg z258).symm.trans hL
                                                        refine j_goto 2466 dL_law__1765 (by decide) ?_
                                                        refine j_iinc (lv' := [(4, .int (v4 + 6)), (6, .int q256.1), (5, .int q253.1), (0, .ref (gX G)), (1, .ref (ad G 0)), (2, .ref (ad G 193)), (3, .ref (ad G 236))]) 6 dL_law__2466 rfl rfl (by decide) rfl ?_
                                                        refine j_goto 23 dL_law__2469 (by decide) ?_
                                                        refine j_sub [3, 4, 5, 6, 0] rfl ?_
                                                        refine j_widen (q' := q + 8) (by omega) ?_
                                                        exact ih (v4 + 6) q256.2 (q + 8) r hL (by omega) kE kR
                                                      · replace hL := (if_pos z258).symm.trans hL
                                                        refine j_aload_n 5 dL_law__1753 rfl ?_
                                                        refine j_iconst 0 dL_law__1754 (by decide) ?_
                                                        obtain ⟨g259, hL⟩ := gd_ex hL
                                                        refine j_lald sh_236 (ib_in g259) dL_law__1755 ?_
                                                        refine j_iload 0 dL_law__1756 rfl ?_
                                                        refine j_i2l dL_law__1758 ?_
                                                        refine j_lcmp dL_law__1759 ?_
                                                        refine j_if_eq 1765 dL_law__1760 (by decide) (fun z260 => ?_) (fun z260 => ?_)
                                                        · replace hL := (if_pos z260).symm.trans hL
                                                          refine j_goto 2466 dL_law__1765 (by decide) ?_
                                                          refine j_iinc (lv' := [(4, .int (v4 + 6)), (6, .int q256.1), (5, .int q253.1), (0, .ref (gX G)), (1, .ref (ad G 0)), (2, .ref (ad G 193)), (3, .ref (ad G 236))]) 6 dL_law__2466 rfl rfl (by decide) rfl ?_
                                                          refine j_goto 23 dL_law__2469 (by decide) ?_
                                                          refine j_sub [3, 4, 5, 6, 0] rfl ?_
                                                          refine j_widen (q' := q + 8) (by omega) ?_
                                                          exact ih (v4 + 6) q256.2 (q + 8) r hL (by omega) kE kR
                                                        · replace hL := (if_neg z260).symm.trans hL
                                                          refine j_iconst 0 dL_law__1763 (by decide) ?_
                                                          cases hL
                                                          exact (kR _ rfl).elim
                                                    · replace hL := (if_neg z257).symm.trans hL
                                                      refine j_iconst 0 dL_law__1746 (by decide) ?_
                                                      cases hL
                                                      exact (kR _ rfl).elim
                                                  · replace hL := (if_neg z250).symm.trans hL
                                                    by_cases z261 : (((gS G) (cl v4)) &&& 63) = 23
                                                    · replace hL := (if_pos z261).symm.trans hL
                                                      refine j_swIn 1768 dL_law__40 (by rw [z261]; decide) (by rw [z261]; decide) (by rw [z261]; rfl) (by decide) ?_
                                                      refine j_aload_n 1 dL_law__1768 rfl ?_
                                                      refine j_aload_n 0 dL_law__1769 rfl ?_
                                                      refine j_iload 4 dL_law__1770 rfl ?_
                                                      refine j_iconst 1 dL_law__1772 (by decide) ?_
                                                      refine j_iadd dL_law__1773 ?_
                                                      obtain ⟨g262, hL⟩ := gd_ex hL
                                                      refine j_scr (ib_in g262) dL_law__1774 ?_
                                                      refine j_aload_n 0 dL_law__1775 rfl ?_
                                                      refine j_iload 4 dL_law__1776 rfl ?_
                                                      refine j_iconst 2 dL_law__1778 (by decide) ?_
                                                      refine j_iadd dL_law__1779 ?_
                                                      obtain ⟨g263, hL⟩ := gd_ex hL
                                                      refine j_scr (ib_in g263) dL_law__1780 ?_
                                                      refine j_aload_n 3 dL_law__1781 rfl ?_
                                                      obtain ⟨q264, hq264, hL⟩ := bnd_ex hL
                                                      refine j_callW (c_L_falls G ((gS G) (cl (v4 + 1))) ((gS G) (cl (v4 + 2))) h _ hq264) ch_RL_195 rfl (by decide) rfl rfl (Nat.le_of_ble_eq_true rfl) dL_law__1782 (by omega) ?_
                                                      refine j_istore (lv' := [(5, .int q264.1), (0, .ref (gX G)), (1, .ref (ad G 0)), (2, .ref (ad G 193)), (3, .ref (ad G 236)), (4, .int v4)]) dL_law__1785 (by decide) rfl ?_
                                                      refine j_aload_n 3 dL_law__1787 rfl ?_
                                                      refine j_aload_n 1 dL_law__1788 rfl ?_
                                                      refine j_iload 5 dL_law__1789 rfl ?_
                                                      refine j_iconst 1 dL_law__1791 (by decide) ?_
                                                      refine j_iadd dL_law__1792 ?_
                                                      obtain ⟨g265, hL⟩ := gd_ex hL
                                                      refine j_scr (ib_in g265) dL_law__1793 ?_
                                                      refine j_aload_n 1 dL_law__1794 rfl ?_
                                                      refine j_iload 5 dL_law__1795 rfl ?_
                                                      refine j_iconst 2 dL_law__1797 (by decide) ?_
                                                      refine j_iadd dL_law__1798 ?_
                                                      obtain ⟨g266, hL⟩ := gd_ex hL
                                                      refine j_scr (ib_in g266) dL_law__1799 ?_
                                                      obtain ⟨q267, hq267, hL⟩ := bnd_ex hL
                                                      refine j_callVi (c_X12_falls G ((gS G) (cl (v4 + 1))) ((gS G) (cl (v4 + 2))) q264.2 _ hq267) cv_RL_197 rfl sh_193 (by decide) rfl (by decide) rfl rfl (Nat.le_of_ble_eq_true rfl) dL_law__1800 (by omega) ?_
                                                      refine j_istore (lv' := [(6, .int q267.1), (5, .int q264.1), (0, .ref (gX G)), (1, .ref (ad G 0)), (2, .ref (ad G 193)), (3, .ref (ad G 236)), (4, .int v4)]) dL_law__1803 (by decide) rfl ?_
                                                      refine j_aload_n 4 dL_law__1805 rfl ?_
                                                      refine j_callVi (c_X12_thrown G  q267.2) cv_RL_124 rfl sh_193 (by decide) rfl (by decide) rfl rfl (Nat.le_of_ble_eq_true rfl) dL_law__1806 (by omega) ?_
                                                      refine j_iload 1 dL_law__1809 rfl ?_
                                                      refine j_icmp_eq 1816 dL_law__1811 (by decide) (fun z268 => ?_) (fun z268 => ?_)
                                                      · replace hL := (if_pos z268).symm.trans hL
                                                        refine j_iload 1 dL_law__1816 rfl ?_
                                                        refine j_if_ne 1833 dL_law__1818 (by decide) (fun z269 => ?_) (fun z269 => ?_)
                                                        · replace hL := (if_neg z269).symm.trans hL
                                                          refine j_goto 2466 dL_law__1833 (by decide) ?_
                                                          refine j_iinc (lv' := [(4, .int (v4 + 6)), (6, .int q267.1), (5, .int q264.1), (0, .ref (gX G)), (1, .ref (ad G 0)), (2, .ref (ad G 193)), (3, .ref (ad G 236))]) 6 dL_law__2466 rfl rfl (by decide) rfl ?_
                                                          refine j_goto 23 dL_law__2469 (by decide) ?_
                                                          refine j_sub [3, 4, 5, 6, 0] rfl ?_
                                                          refine j_widen (q' := q + 8) (by omega) ?_
                                                          exact ih (v4 + 6) q267.2 (q + 8) r hL (by omega) kE kR
                                                        · replace hL := (if_pos z269).symm.trans hL
                                                          refine j_aload_n 5 dL_law__1821 rfl ?_
                                                          refine j_iconst 0 dL_law__1822 (by decide) ?_
                                                          obtain ⟨g270, hL⟩ := gd_ex hL
                                                          refine j_lald sh_236 (ib_in g270) dL_law__1823 ?_
                                                          refine j_iload 0 dL_law__1824 rfl ?_
                                                          refine j_i2l dL_law__1826 ?_
                                                          refine j_lcmp dL_law__1827 ?_
                                                          refine j_if_eq 1833 dL_law__1828 (by decide) (fun z271 => ?_) (fun z271 => ?_)
                                                          · replace hL := (if_pos z271).symm.trans hL
                                                            refine j_goto 2466 dL_law__1833 (by decide) ?_
                                                            refine j_iinc (lv' := [(4, .int (v4 + 6)), (6, .int q267.1), (5, .int q264.1), (0, .ref (gX G)), (1, .ref (ad G 0)), (2, .ref (ad G 193)), (3, .ref (ad G 236))]) 6 dL_law__2466 rfl rfl (by decide) rfl ?_
                                                            refine j_goto 23 dL_law__2469 (by decide) ?_
                                                            refine j_sub [3, 4, 5, 6, 0] rfl ?_
                                                            refine j_widen (q' := q + 8) (by omega) ?_
                                                            exact ih (v4 + 6) q267.2 (q + 8) r hL (by omega) kE kR
                                                          · replace hL := (if_neg z271).symm.trans hL
                                                            refine j_iconst 0 dL_law__1831 (by decide) ?_
                                                            cases hL
                                                            exact (kR _ rfl).elim
                                                      · replace hL := (if_neg z268).symm.trans hL
                                                        refine j_iconst 0 dL_law__1814 (by decide) ?_
                                                        cases hL
                                                        exact (kR _ rfl).elim
                                                    · replace hL := (if_neg z261).symm.trans hL
                                                      by_cases z272 : (((gS G) (cl v4)) &&& 63) = 24
                                                      · replace hL := (if_pos z272).symm.trans hL
                                                        refine j_swIn 1836 dL_law__40 (by rw [z272]; decide) (by rw [z272]; decide) (by rw [z272]; rfl) (by decide) ?_
                                                        refine j_aload_n 1 dL_law__1836 rfl ?_
                                                        refine j_aload_n 0 dL_law__1837 rfl ?_
                                                        refine j_iload 4 dL_law__1838 rfl ?_
                                                        refine j_iconst 1 dL_law__1840 (by decide) ?_
                                                        refine j_iadd dL_law__1841 ?_
                                                        obtain ⟨g273, hL⟩ := gd_ex hL
                                                        refine j_scr (ib_in g273) dL_law__1842 ?_
                                                        refine j_aload_n 0 dL_law__1843 rfl ?_
                                                        refine j_iload 4 dL_law__1844 rfl ?_
                                                        refine j_iconst 2 dL_law__1846 (by decide) ?_
                                                        refine j_iadd dL_law__1847 ?_
                                                        obtain ⟨g274, hL⟩ := gd_ex hL
                                                        refine j_scr (ib_in g274) dL_law__1848 ?_
                                                        obtain ⟨q275, hq275, hL⟩ := bnd_ex hL
                                                        refine j_callVi (c_X11_blank G ((gS G) (cl (v4 + 1))) ((gS G) (cl (v4 + 2))) h _ hq275) cv_RL_198 rfl sh_0 (by decide) rfl (by decide) rfl rfl (Nat.le_of_ble_eq_true rfl) dL_law__1849 (by omega) ?_
                                                        refine j_aload_n 2 dL_law__1852 rfl ?_
                                                        refine j_aload_n 0 dL_law__1853 rfl ?_
                                                        refine j_iload 4 dL_law__1854 rfl ?_
                                                        refine j_iconst 1 dL_law__1856 (by decide) ?_
                                                        refine j_iadd dL_law__1857 ?_
                                                        obtain ⟨g276, hL⟩ := gd_ex hL
                                                        refine j_scr (ib_in g276) dL_law__1858 ?_
                                                        refine j_aload_n 0 dL_law__1859 rfl ?_
                                                        refine j_iload 4 dL_law__1860 rfl ?_
                                                        refine j_iconst 2 dL_law__1862 (by decide) ?_
                                                        refine j_iadd dL_law__1863 ?_
                                                        obtain ⟨g277, hL⟩ := gd_ex hL
                                                        refine j_scr (ib_in g277) dL_law__1864 ?_
                                                        obtain ⟨q278, hq278, hL⟩ := bnd_ex hL
                                                        refine j_callVi (c_X12_blank G ((gS G) (cl (v4 + 1))) ((gS G) (cl (v4 + 2))) q275.2 _ hq278) cv_RL_201 rfl sh_193 (by decide) rfl (by decide) rfl rfl (Nat.le_of_ble_eq_true rfl) dL_law__1865 (by omega) ?_
                                                        refine j_icmp_eq 2466 dL_law__1868 (by decide) (fun z279 => ?_) (fun z279 => ?_)
                                                        · replace hL := (if_pos z279).symm.trans hL
                                                          refine j_iinc (lv' := [(4, .int (v4 + 6)), (0, .ref (gX G)), (1, .ref (ad G 0)), (2, .ref (ad G 193)), (3, .ref (ad G 236))]) 4 dL_law__2466 rfl rfl (by decide) rfl ?_
                                                          refine j_goto 23 dL_law__2469 (by decide) ?_
                                                          refine j_sub [1, 2, 3, 4, 0] rfl ?_
                                                          refine j_widen (q' := q + 8) (by omega) ?_
                                                          exact ih (v4 + 6) q278.2 (q + 8) r hL (by omega) kE kR
                                                        · replace hL := (if_neg z279).symm.trans hL
                                                          refine j_iconst 0 dL_law__1871 (by decide) ?_
                                                          cases hL
                                                          exact (kR _ rfl).elim
                                                      · replace hL := (if_neg z272).symm.trans hL
                                                        by_cases z280 : (((gS G) (cl v4)) &&& 63) = 25
                                                        · replace hL := (if_pos z280).symm.trans hL
                                                          refine j_swIn 1873 dL_law__40 (by rw [z280]; decide) (by rw [z280]; decide) (by rw [z280]; rfl) (by decide) ?_
                                                          refine j_aload_n 1 dL_law__1873 rfl ?_
                                                          obtain ⟨q281, hq281, hL⟩ := bnd_ex hL
                                                          refine j_callVi (c_X11_clear G  h _ hq281) cv_RL_202 rfl sh_0 (by decide) rfl (by decide) rfl rfl (Nat.le_of_ble_eq_true rfl) dL_law__1874 (by omega) ?_
                                                          refine j_aload_n 2 dL_law__1877 rfl ?_
                                                          obtain ⟨q282, hq282, hL⟩ := bnd_ex hL
                                                          refine j_callVi (c_X12_clear G  q281.2 _ hq282) cv_RL_205 rfl sh_193 (by decide) rfl (by decide) rfl rfl (Nat.le_of_ble_eq_true rfl) dL_law__1878 (by omega) ?_
                                                          refine j_icmp_eq 2466 dL_law__1881 (by decide) (fun z283 => ?_) (fun z283 => ?_)
                                                          · replace hL := (if_pos z283).symm.trans hL
                                                            refine j_iinc (lv' := [(4, .int (v4 + 6)), (0, .ref (gX G)), (1, .ref (ad G 0)), (2, .ref (ad G 193)), (3, .ref (ad G 236))]) 4 dL_law__2466 rfl rfl (by decide) rfl ?_
                                                            refine j_goto 23 dL_law__2469 (by decide) ?_
                                                            refine j_sub [1, 2, 3, 4, 0] rfl ?_
                                                            refine j_widen (q' := q + 8) (by omega) ?_
                                                            exact ih (v4 + 6) q282.2 (q + 8) r hL (by omega) kE kR
                                                          · replace hL := (if_neg z283).symm.trans hL
                                                            refine j_iconst 0 dL_law__1884 (by decide) ?_
                                                            cases hL
                                                            exact (kR _ rfl).elim
                                                        · replace hL := (if_neg z280).symm.trans hL
                                                          by_cases z284 : (((gS G) (cl v4)) &&& 63) = 26
                                                          · replace hL := (if_pos z284).symm.trans hL
                                                            refine j_swIn 1886 dL_law__40 (by rw [z284]; decide) (by rw [z284]; decide) (by rw [z284]; rfl) (by decide) ?_
                                                            refine j_aload_n 1 dL_law__1886 rfl ?_
                                                            refine j_aload_n 0 dL_law__1887 rfl ?_
                                                            refine j_iload 4 dL_law__1888 rfl ?_
                                                            refine j_iconst 1 dL_law__1890 (by decide) ?_
                                                            refine j_iadd dL_law__1891 ?_
                                                            obtain ⟨g285, hL⟩ := gd_ex hL
                                                            refine j_scr (ib_in g285) dL_law__1892 ?_
                                                            refine j_aload_n 3 dL_law__1893 rfl ?_
                                                            obtain ⟨q286, hq286, hL⟩ := bnd_ex hL
                                                            refine j_callW (c_L_turn G ((gS G) (cl (v4 + 1))) h _ hq286) ch_RL_206 rfl (by decide) rfl rfl (Nat.le_of_ble_eq_true rfl) dL_law__1894 (by omega) ?_
                                                            refine j_istore (lv' := [(5, .int q286.1), (0, .ref (gX G)), (1, .ref (ad G 0)), (2, .ref (ad G 193)), (3, .ref (ad G 236)), (4, .int v4)]) dL_law__1897 (by decide) rfl ?_
                                                            refine j_aload_n 3 dL_law__1899 rfl ?_
                                                            refine j_aload_n 1 dL_law__1900 rfl ?_
                                                            refine j_iload 5 dL_law__1901 rfl ?_
                                                            refine j_iconst 1 dL_law__1903 (by decide) ?_
                                                            refine j_iadd dL_law__1904 ?_
                                                            obtain ⟨g287, hL⟩ := gd_ex hL
                                                            refine j_scr (ib_in g287) dL_law__1905 ?_
                                                            obtain ⟨q288, hq288, hL⟩ := bnd_ex hL
                                                            refine j_callVi (c_X12_turn G ((gS G) (cl (v4 + 1))) q286.2 _ hq288) cv_RL_208 rfl sh_193 (by decide) rfl (by decide) rfl rfl (Nat.le_of_ble_eq_true rfl) dL_law__1906 (by omega) ?_
                                                            refine j_istore (lv' := [(6, .int q288.1), (5, .int q286.1), (0, .ref (gX G)), (1, .ref (ad G 0)), (2, .ref (ad G 193)), (3, .ref (ad G 236)), (4, .int v4)]) dL_law__1909 (by decide) rfl ?_
                                                            refine j_aload_n 4 dL_law__1911 rfl ?_
                                                            refine j_callVi (c_X12_thrown G  q288.2) cv_RL_124 rfl sh_193 (by decide) rfl (by decide) rfl rfl (Nat.le_of_ble_eq_true rfl) dL_law__1912 (by omega) ?_
                                                            refine j_iload 1 dL_law__1915 rfl ?_
                                                            refine j_icmp_eq 1922 dL_law__1917 (by decide) (fun z289 => ?_) (fun z289 => ?_)
                                                            · replace hL := (if_pos z289).symm.trans hL
                                                              refine j_iload 1 dL_law__1922 rfl ?_
                                                              refine j_if_ne 1939 dL_law__1924 (by decide) (fun z290 => ?_) (fun z290 => ?_)
                                                              · replace hL := (if_neg z290).symm.trans hL
                                                                refine j_goto 2466 dL_law__1939 (by decide) ?_
                                                                refine j_iinc (lv' := [(4, .int (v4 + 6)), (6, .int q288.1), (5, .int q286.1), (0, .ref (gX G)), (1, .ref (ad G 0)), (2, .ref (ad G 193)), (3, .ref (ad G 236))]) 6 dL_law__2466 rfl rfl (by decide) rfl ?_
                                                                refine j_goto 23 dL_law__2469 (by decide) ?_
                                                                refine j_sub [3, 4, 5, 6, 0] rfl ?_
                                                                refine j_widen (q' := q + 8) (by omega) ?_
                                                                exact ih (v4 + 6) q288.2 (q + 8) r hL (by omega) kE kR
                                                              · replace hL := (if_pos z290).symm.trans hL
                                                                refine j_aload_n 5 dL_law__1927 rfl ?_
                                                                refine j_iconst 0 dL_law__1928 (by decide) ?_
                                                                obtain ⟨g291, hL⟩ := gd_ex hL
                                                                refine j_lald sh_236 (ib_in g291) dL_law__1929 ?_
                                                                refine j_iload 0 dL_law__1930 rfl ?_
                                                                refine j_i2l dL_law__1932 ?_
                                                                refine j_lcmp dL_law__1933 ?_
                                                                refine j_if_eq 1939 dL_law__1934 (by decide) (fun z292 => ?_) (fun z292 => ?_)
                                                                · replace hL := (if_pos z292).symm.trans hL
                                                                  refine j_goto 2466 dL_law__1939 (by decide) ?_
                                                                  refine j_iinc (lv' := [(4, .int (v4 + 6)), (6, .int q288.1), (5, .int q286.1), (0, .ref (gX G)), (1, .ref (ad G 0)), (2, .ref (ad G 193)), (3, .ref (ad G 236))]) 6 dL_law__2466 rfl rfl (by decide) rfl ?_
                                                                  refine j_goto 23 dL_law__2469 (by decide) ?_
                                                                  refine j_sub [3, 4, 5, 6, 0] rfl ?_
                                                                  refine j_widen (q' := q + 8) (by omega) ?_
                                                                  exact ih (v4 + 6) q288.2 (q + 8) r hL (by omega) kE kR
                                                                · replace hL := (if_neg z292).symm.trans hL
                                                                  refine j_iconst 0 dL_law__1937 (by decide) ?_
                                                                  cases hL
                                                                  exact (kR _ rfl).elim
                                                            · replace hL := (if_neg z289).symm.trans hL
                                                              refine j_iconst 0 dL_law__1920 (by decide) ?_
                                                              cases hL
                                                              exact (kR _ rfl).elim
                                                          · replace hL := (if_neg z284).symm.trans hL
                                                            by_cases z293 : (((gS G) (cl v4)) &&& 63) = 27
                                                            · replace hL := (if_pos z293).symm.trans hL
                                                              refine j_swIn 1942 dL_law__40 (by rw [z293]; decide) (by rw [z293]; decide) (by rw [z293]; rfl) (by decide) ?_
                                                              refine j_aload_n 1 dL_law__1942 rfl ?_
                                                              refine j_aload_n 0 dL_law__1943 rfl ?_
                                                              refine j_iload 4 dL_law__1944 rfl ?_
                                                              refine j_iconst 1 dL_law__1946 (by decide) ?_
                                                              refine j_iadd dL_law__1947 ?_
                                                              obtain ⟨g294, hL⟩ := gd_ex hL
                                                              refine j_scr (ib_in g294) dL_law__1948 ?_
                                                              refine j_aload_n 3 dL_law__1949 rfl ?_
                                                              obtain ⟨q295, hq295, hL⟩ := bnd_ex hL
                                                              refine j_callW (c_L_town G ((gS G) (cl (v4 + 1))) h _ hq295) ch_RL_209 rfl (by decide) rfl rfl (Nat.le_of_ble_eq_true rfl) dL_law__1950 (by omega) ?_
                                                              refine j_istore (lv' := [(5, .int q295.1), (0, .ref (gX G)), (1, .ref (ad G 0)), (2, .ref (ad G 193)), (3, .ref (ad G 236)), (4, .int v4)]) dL_law__1953 (by decide) rfl ?_
                                                              refine j_aload_n 3 dL_law__1955 rfl ?_
                                                              refine j_aload_n 1 dL_law__1956 rfl ?_
                                                              refine j_iload 5 dL_law__1957 rfl ?_
                                                              refine j_iconst 1 dL_law__1959 (by decide) ?_
                                                              refine j_iadd dL_law__1960 ?_
                                                              obtain ⟨g296, hL⟩ := gd_ex hL
                                                              refine j_scr (ib_in g296) dL_law__1961 ?_
                                                              obtain ⟨q297, hq297, hL⟩ := bnd_ex hL
                                                              refine j_callVi (c_X12_town G ((gS G) (cl (v4 + 1))) q295.2 _ hq297) cv_RL_211 rfl sh_193 (by decide) rfl (by decide) rfl rfl (Nat.le_of_ble_eq_true rfl) dL_law__1962 (by omega) ?_
                                                              refine j_istore (lv' := [(6, .int q297.1), (5, .int q295.1), (0, .ref (gX G)), (1, .ref (ad G 0)), (2, .ref (ad G 193)), (3, .ref (ad G 236)), (4, .int v4)]) dL_law__1965 (by decide) rfl ?_
                                                              refine j_aload_n 4 dL_law__1967 rfl ?_
                                                              refine j_callVi (c_X12_thrown G  q297.2) cv_RL_124 rfl sh_193 (by decide) rfl (by decide) rfl rfl (Nat.le_of_ble_eq_true rfl) dL_law__1968 (by omega) ?_
                                                              refine j_iload 1 dL_law__1971 rfl ?_
                                                              refine j_icmp_eq 1978 dL_law__1973 (by decide) (fun z298 => ?_) (fun z298 => ?_)
                                                              · replace hL := (if_pos z298).symm.trans hL
                                                                refine j_iload 1 dL_law__1978 rfl ?_
                                                                refine j_if_ne 1995 dL_law__1980 (by decide) (fun z299 => ?_) (fun z299 => ?_)
                                                                · replace hL := (if_neg z299).symm.trans hL
                                                                  refine j_goto 2466 dL_law__1995 (by decide) ?_
                                                                  refine j_iinc (lv' := [(4, .int (v4 + 6)), (6, .int q297.1), (5, .int q295.1), (0, .ref (gX G)), (1, .ref (ad G 0)), (2, .ref (ad G 193)), (3, .ref (ad G 236))]) 6 dL_law__2466 rfl rfl (by decide) rfl ?_
                                                                  refine j_goto 23 dL_law__2469 (by decide) ?_
                                                                  refine j_sub [3, 4, 5, 6, 0] rfl ?_
                                                                  refine j_widen (q' := q + 8) (by omega) ?_
                                                                  exact ih (v4 + 6) q297.2 (q + 8) r hL (by omega) kE kR
                                                                · replace hL := (if_pos z299).symm.trans hL
                                                                  refine j_aload_n 5 dL_law__1983 rfl ?_
                                                                  refine j_iconst 0 dL_law__1984 (by decide) ?_
                                                                  obtain ⟨g300, hL⟩ := gd_ex hL
                                                                  refine j_lald sh_236 (ib_in g300) dL_law__1985 ?_
                                                                  refine j_iload 0 dL_law__1986 rfl ?_
                                                                  refine j_i2l dL_law__1988 ?_
                                                                  refine j_lcmp dL_law__1989 ?_
                                                                  refine j_if_eq 1995 dL_law__1990 (by decide) (fun z301 => ?_) (fun z301 => ?_)
                                                                  · replace hL := (if_pos z301).symm.trans hL
                                                                    refine j_goto 2466 dL_law__1995 (by decide) ?_
                                                                    refine j_iinc (lv' := [(4, .int (v4 + 6)), (6, .int q297.1), (5, .int q295.1), (0, .ref (gX G)), (1, .ref (ad G 0)), (2, .ref (ad G 193)), (3, .ref (ad G 236))]) 6 dL_law__2466 rfl rfl (by decide) rfl ?_
                                                                    refine j_goto 23 dL_law__2469 (by decide) ?_
                                                                    refine j_sub [3, 4, 5, 6, 0] rfl ?_
                                                                    refine j_widen (q' := q + 8) (by omega) ?_
                                                                    exact ih (v4 + 6) q297.2 (q + 8) r hL (by omega) kE kR
                                                                  · replace hL := (if_neg z301).symm.trans hL
                                                                    refine j_iconst 0 dL_law__1993 (by decide) ?_
                                                                    cases hL
                                                                    exact (kR _ rfl).elim
                                                              · replace hL := (if_neg z298).symm.trans hL
                                                                refine j_iconst 0 dL_law__1976 (by decide) ?_
                                                                cases hL
                                                                exact (kR _ rfl).elim
                                                            · replace hL := (if_neg z293).symm.trans hL
                                                              by_cases z302 : (((gS G) (cl v4)) &&& 63) = 28
                                                              · replace hL := (if_pos z302).symm.trans hL
                                                                refine j_swIn 1998 dL_law__40 (by rw [z302]; decide) (by rw [z302]; decide) (by rw [z302]; rfl) (by decide) ?_
                                                                refine j_aload_n 1 dL_law__1998 rfl ?_
                                                                refine j_aload_n 0 dL_law__1999 rfl ?_
                                                                refine j_iload 4 dL_law__2000 rfl ?_
                                                                refine j_iconst 1 dL_law__2002 (by decide) ?_
                                                                refine j_iadd dL_law__2003 ?_
                                                                obtain ⟨g303, hL⟩ := gd_ex hL
                                                                refine j_scr (ib_in g303) dL_law__2004 ?_
                                                                refine j_aload_n 0 dL_law__2005 rfl ?_
                                                                refine j_iload 4 dL_law__2006 rfl ?_
                                                                refine j_iconst 2 dL_law__2008 (by decide) ?_
                                                                refine j_iadd dL_law__2009 ?_
                                                                obtain ⟨g304, hL⟩ := gd_ex hL
                                                                refine j_scr (ib_in g304) dL_law__2010 ?_
                                                                refine j_aload_n 3 dL_law__2011 rfl ?_
                                                                obtain ⟨q305, hq305, hL⟩ := bnd_ex hL
                                                                refine j_callW (c_L_alike G ((gS G) (cl (v4 + 1))) ((gS G) (cl (v4 + 2))) h _ hq305) ch_RL_212 rfl (by decide) rfl rfl (Nat.le_of_ble_eq_true rfl) dL_law__2012 (by omega) ?_
                                                                refine j_istore (lv' := [(5, .int q305.1), (0, .ref (gX G)), (1, .ref (ad G 0)), (2, .ref (ad G 193)), (3, .ref (ad G 236)), (4, .int v4)]) dL_law__2015 (by decide) rfl ?_
                                                                refine j_aload_n 3 dL_law__2017 rfl ?_
                                                                refine j_aload_n 1 dL_law__2018 rfl ?_
                                                                refine j_iload 5 dL_law__2019 rfl ?_
                                                                refine j_iconst 1 dL_law__2021 (by decide) ?_
                                                                refine j_iadd dL_law__2022 ?_
                                                                obtain ⟨g306, hL⟩ := gd_ex hL
                                                                refine j_scr (ib_in g306) dL_law__2023 ?_
                                                                refine j_aload_n 1 dL_law__2024 rfl ?_
                                                                refine j_iload 5 dL_law__2025 rfl ?_
                                                                refine j_iconst 2 dL_law__2027 (by decide) ?_
                                                                refine j_iadd dL_law__2028 ?_
                                                                obtain ⟨g307, hL⟩ := gd_ex hL
                                                                refine j_scr (ib_in g307) dL_law__2029 ?_
                                                                obtain ⟨q308, hq308, hL⟩ := bnd_ex hL
                                                                refine j_callVi (c_X12_alike G ((gS G) (cl (v4 + 1))) ((gS G) (cl (v4 + 2))) q305.2 _ hq308) cv_RL_214 rfl sh_193 (by decide) rfl (by decide) rfl rfl (Nat.le_of_ble_eq_true rfl) dL_law__2030 (by omega) ?_
                                                                refine j_istore (lv' := [(6, .int q308.1), (5, .int q305.1), (0, .ref (gX G)), (1, .ref (ad G 0)), (2, .ref (ad G 193)), (3, .ref (ad G 236)), (4, .int v4)]) dL_law__2033 (by decide) rfl ?_
                                                                refine j_aload_n 4 dL_law__2035 rfl ?_
                                                                refine j_callVi (c_X12_thrown G  q308.2) cv_RL_124 rfl sh_193 (by decide) rfl (by decide) rfl rfl (Nat.le_of_ble_eq_true rfl) dL_law__2036 (by omega) ?_
                                                                refine j_iload 1 dL_law__2039 rfl ?_
                                                                refine j_icmp_eq 2046 dL_law__2041 (by decide) (fun z309 => ?_) (fun z309 => ?_)
                                                                · replace hL := (if_pos z309).symm.trans hL
                                                                  refine j_iload 1 dL_law__2046 rfl ?_
                                                                  refine j_if_ne 2063 dL_law__2048 (by decide) (fun z310 => ?_) (fun z310 => ?_)
                                                                  · replace hL := (if_neg z310).symm.trans hL
                                                                    refine j_goto 2466 dL_law__2063 (by decide) ?_
                                                                    refine j_iinc (lv' := [(4, .int (v4 + 6)), (6, .int q308.1), (5, .int q305.1), (0, .ref (gX G)), (1, .ref (ad G 0)), (2, .ref (ad G 193)), (3, .ref (ad G 236))]) 6 dL_law__2466 rfl rfl (by decide) rfl ?_
                                                                    refine j_goto 23 dL_law__2469 (by decide) ?_
                                                                    refine j_sub [3, 4, 5, 6, 0] rfl ?_
                                                                    refine j_widen (q' := q + 8) (by omega) ?_
                                                                    exact ih (v4 + 6) q308.2 (q + 8) r hL (by omega) kE kR
                                                                  · replace hL := (if_pos z310).symm.trans hL
                                                                    refine j_aload_n 5 dL_law__2051 rfl ?_
                                                                    refine j_iconst 0 dL_law__2052 (by decide) ?_
                                                                    obtain ⟨g311, hL⟩ := gd_ex hL
                                                                    refine j_lald sh_236 (ib_in g311) dL_law__2053 ?_
                                                                    refine j_iload 0 dL_law__2054 rfl ?_
                                                                    refine j_i2l dL_law__2056 ?_
                                                                    refine j_lcmp dL_law__2057 ?_
                                                                    refine j_if_eq 2063 dL_law__2058 (by decide) (fun z312 => ?_) (fun z312 => ?_)
                                                                    · replace hL := (if_pos z312).symm.trans hL
                                                                      refine j_goto 2466 dL_law__2063 (by decide) ?_
                                                                      refine j_iinc (lv' := [(4, .int (v4 + 6)), (6, .int q308.1), (5, .int q305.1), (0, .ref (gX G)), (1, .ref (ad G 0)), (2, .ref (ad G 193)), (3, .ref (ad G 236))]) 6 dL_law__2466 rfl rfl (by decide) rfl ?_
                                                                      refine j_goto 23 dL_law__2469 (by decide) ?_
                                                                      refine j_sub [3, 4, 5, 6, 0] rfl ?_
                                                                      refine j_widen (q' := q + 8) (by omega) ?_
                                                                      exact ih (v4 + 6) q308.2 (q + 8) r hL (by omega) kE kR
                                                                    · replace hL := (if_neg z312).symm.trans hL
                                                                      refine j_iconst 0 dL_law__2061 (by decide) ?_
                                                                      cases hL
                                                                      exact (kR _ rfl).elim
                                                                · replace hL := (if_neg z309).symm.trans hL
                                                                  refine j_iconst 0 dL_law__2044 (by decide) ?_
                                                                  cases hL
                                                                  exact (kR _ rfl).elim
                                                              · replace hL := (if_neg z302).symm.trans hL
                                                                by_cases z313 : (((gS G) (cl v4)) &&& 63) = 29
                                                                · replace hL := (if_pos z313).symm.trans hL
                                                                  refine j_swIn 2066 dL_law__40 (by rw [z313]; decide) (by rw [z313]; decide) (by rw [z313]; rfl) (by decide) ?_
                                                                  refine j_aload_n 1 dL_law__2066 rfl ?_
                                                                  refine j_aload_n 0 dL_law__2067 rfl ?_
                                                                  refine j_iload 4 dL_law__2068 rfl ?_
                                                                  refine j_iconst 1 dL_law__2070 (by decide) ?_
                                                                  refine j_iadd dL_law__2071 ?_
                                                                  obtain ⟨g314, hL⟩ := gd_ex hL
                                                                  refine j_scr (ib_in g314) dL_law__2072 ?_
                                                                  refine j_aload_n 3 dL_law__2073 rfl ?_
                                                                  obtain ⟨q315, hq315, hL⟩ := bnd_ex hL
                                                                  refine j_callW (c_L_nearest G ((gS G) (cl (v4 + 1))) h _ hq315) ch_RL_215 rfl (by decide) rfl rfl (Nat.le_of_ble_eq_true rfl) dL_law__2074 (by omega) ?_
                                                                  refine j_istore (lv' := [(5, .int q315.1), (0, .ref (gX G)), (1, .ref (ad G 0)), (2, .ref (ad G 193)), (3, .ref (ad G 236)), (4, .int v4)]) dL_law__2077 (by decide) rfl ?_
                                                                  refine j_aload_n 3 dL_law__2079 rfl ?_
                                                                  refine j_aload_n 1 dL_law__2080 rfl ?_
                                                                  refine j_iload 5 dL_law__2081 rfl ?_
                                                                  refine j_iconst 1 dL_law__2083 (by decide) ?_
                                                                  refine j_iadd dL_law__2084 ?_
                                                                  obtain ⟨g316, hL⟩ := gd_ex hL
                                                                  refine j_scr (ib_in g316) dL_law__2085 ?_
                                                                  obtain ⟨q317, hq317, hL⟩ := bnd_ex hL
                                                                  refine j_callVi (c_X12_nearest G ((gS G) (cl (v4 + 1))) q315.2 _ hq317) cv_RL_217 rfl sh_193 (by decide) rfl (by decide) rfl rfl (Nat.le_of_ble_eq_true rfl) dL_law__2086 (by omega) ?_
                                                                  refine j_istore (lv' := [(6, .int q317.1), (5, .int q315.1), (0, .ref (gX G)), (1, .ref (ad G 0)), (2, .ref (ad G 193)), (3, .ref (ad G 236)), (4, .int v4)]) dL_law__2089 (by decide) rfl ?_
                                                                  refine j_aload_n 4 dL_law__2091 rfl ?_
                                                                  refine j_callVi (c_X12_thrown G  q317.2) cv_RL_124 rfl sh_193 (by decide) rfl (by decide) rfl rfl (Nat.le_of_ble_eq_true rfl) dL_law__2092 (by omega) ?_
                                                                  refine j_iload 1 dL_law__2095 rfl ?_
                                                                  refine j_icmp_eq 2102 dL_law__2097 (by decide) (fun z318 => ?_) (fun z318 => ?_)
                                                                  · replace hL := (if_pos z318).symm.trans hL
                                                                    refine j_iload 1 dL_law__2102 rfl ?_
                                                                    refine j_if_ne 2119 dL_law__2104 (by decide) (fun z319 => ?_) (fun z319 => ?_)
                                                                    · replace hL := (if_neg z319).symm.trans hL
                                                                      refine j_goto 2466 dL_law__2119 (by decide) ?_
                                                                      refine j_iinc (lv' := [(4, .int (v4 + 6)), (6, .int q317.1), (5, .int q315.1), (0, .ref (gX G)), (1, .ref (ad G 0)), (2, .ref (ad G 193)), (3, .ref (ad G 236))]) 6 dL_law__2466 rfl rfl (by decide) rfl ?_
                                                                      refine j_goto 23 dL_law__2469 (by decide) ?_
                                                                      refine j_sub [3, 4, 5, 6, 0] rfl ?_
                                                                      refine j_widen (q' := q + 8) (by omega) ?_
                                                                      exact ih (v4 + 6) q317.2 (q + 8) r hL (by omega) kE kR
                                                                    · replace hL := (if_pos z319).symm.trans hL
                                                                      refine j_aload_n 5 dL_law__2107 rfl ?_
                                                                      refine j_iconst 0 dL_law__2108 (by decide) ?_
                                                                      obtain ⟨g320, hL⟩ := gd_ex hL
                                                                      refine j_lald sh_236 (ib_in g320) dL_law__2109 ?_
                                                                      refine j_iload 0 dL_law__2110 rfl ?_
                                                                      refine j_i2l dL_law__2112 ?_
                                                                      refine j_lcmp dL_law__2113 ?_
                                                                      refine j_if_eq 2119 dL_law__2114 (by decide) (fun z321 => ?_) (fun z321 => ?_)
                                                                      · replace hL := (if_pos z321).symm.trans hL
                                                                        refine j_goto 2466 dL_law__2119 (by decide) ?_
                                                                        refine j_iinc (lv' := [(4, .int (v4 + 6)), (6, .int q317.1), (5, .int q315.1), (0, .ref (gX G)), (1, .ref (ad G 0)), (2, .ref (ad G 193)), (3, .ref (ad G 236))]) 6 dL_law__2466 rfl rfl (by decide) rfl ?_
                                                                        refine j_goto 23 dL_law__2469 (by decide) ?_
                                                                        refine j_sub [3, 4, 5, 6, 0] rfl ?_
                                                                        refine j_widen (q' := q + 8) (by omega) ?_
                                                                        exact ih (v4 + 6) q317.2 (q + 8) r hL (by omega) kE kR
                                                                      · replace hL := (if_neg z321).symm.trans hL
                                                                        refine j_iconst 0 dL_law__2117 (by decide) ?_
                                                                        cases hL
                                                                        exact (kR _ rfl).elim
                                                                  · replace hL := (if_neg z318).symm.trans hL
                                                                    refine j_iconst 0 dL_law__2100 (by decide) ?_
                                                                    cases hL
                                                                    exact (kR _ rfl).elim
                                                                · replace hL := (if_neg z313).symm.trans hL
                                                                  by_cases z322 : (((gS G) (cl v4)) &&& 63) = 30
                                                                  · replace hL := (if_pos z322).symm.trans hL
                                                                    refine j_swIn 2122 dL_law__40 (by rw [z322]; decide) (by rw [z322]; decide) (by rw [z322]; rfl) (by decide) ?_
                                                                    refine j_aload_n 1 dL_law__2122 rfl ?_
                                                                    refine j_aload_n 0 dL_law__2123 rfl ?_
                                                                    refine j_iload 4 dL_law__2124 rfl ?_
                                                                    refine j_iconst 1 dL_law__2126 (by decide) ?_
                                                                    refine j_iadd dL_law__2127 ?_
                                                                    obtain ⟨g323, hL⟩ := gd_ex hL
                                                                    refine j_scr (ib_in g323) dL_law__2128 ?_
                                                                    refine j_aload_n 0 dL_law__2129 rfl ?_
                                                                    refine j_iload 4 dL_law__2130 rfl ?_
                                                                    refine j_iconst 2 dL_law__2132 (by decide) ?_
                                                                    refine j_iadd dL_law__2133 ?_
                                                                    obtain ⟨g324, hL⟩ := gd_ex hL
                                                                    refine j_scr (ib_in g324) dL_law__2134 ?_
                                                                    refine j_aload_n 0 dL_law__2135 rfl ?_
                                                                    refine j_iload 4 dL_law__2136 rfl ?_
                                                                    refine j_iconst 3 dL_law__2138 (by decide) ?_
                                                                    refine j_iadd dL_law__2139 ?_
                                                                    obtain ⟨g325, hL⟩ := gd_ex hL
                                                                    refine j_scr (ib_in g325) dL_law__2140 ?_
                                                                    refine j_aload_n 3 dL_law__2141 rfl ?_
                                                                    obtain ⟨q326, hq326, hL⟩ := bnd_ex hL
                                                                    refine j_callW (c_L_sure G ((gS G) (cl (v4 + 1))) ((gS G) (cl (v4 + 2))) ((gS G) (cl (v4 + 3))) h _ hq326) ch_RL_218 rfl (by decide) rfl rfl (Nat.le_of_ble_eq_true rfl) dL_law__2142 (by omega) ?_
                                                                    refine j_istore (lv' := [(5, .int q326.1), (0, .ref (gX G)), (1, .ref (ad G 0)), (2, .ref (ad G 193)), (3, .ref (ad G 236)), (4, .int v4)]) dL_law__2145 (by decide) rfl ?_
                                                                    refine j_aload_n 3 dL_law__2147 rfl ?_
                                                                    refine j_aload_n 1 dL_law__2148 rfl ?_
                                                                    refine j_iload 5 dL_law__2149 rfl ?_
                                                                    refine j_iconst 1 dL_law__2151 (by decide) ?_
                                                                    refine j_iadd dL_law__2152 ?_
                                                                    obtain ⟨g327, hL⟩ := gd_ex hL
                                                                    refine j_scr (ib_in g327) dL_law__2153 ?_
                                                                    refine j_aload_n 1 dL_law__2154 rfl ?_
                                                                    refine j_iload 5 dL_law__2155 rfl ?_
                                                                    refine j_iconst 2 dL_law__2157 (by decide) ?_
                                                                    refine j_iadd dL_law__2158 ?_
                                                                    obtain ⟨g328, hL⟩ := gd_ex hL
                                                                    refine j_scr (ib_in g328) dL_law__2159 ?_
                                                                    refine j_aload_n 1 dL_law__2160 rfl ?_
                                                                    refine j_iload 5 dL_law__2161 rfl ?_
                                                                    refine j_iconst 3 dL_law__2163 (by decide) ?_
                                                                    refine j_iadd dL_law__2164 ?_
                                                                    obtain ⟨g329, hL⟩ := gd_ex hL
                                                                    refine j_scr (ib_in g329) dL_law__2165 ?_
                                                                    obtain ⟨q330, hq330, hL⟩ := bnd_ex hL
                                                                    refine j_callVi (c_X12_sure G ((gS G) (cl (v4 + 1))) ((gS G) (cl (v4 + 2))) ((gS G) (cl (v4 + 3))) q326.2 _ hq330) cv_RL_220 rfl sh_193 (by decide) rfl (by decide) rfl rfl (Nat.le_of_ble_eq_true rfl) dL_law__2166 (by omega) ?_
                                                                    refine j_istore (lv' := [(6, .int q330.1), (5, .int q326.1), (0, .ref (gX G)), (1, .ref (ad G 0)), (2, .ref (ad G 193)), (3, .ref (ad G 236)), (4, .int v4)]) dL_law__2169 (by decide) rfl ?_
                                                                    refine j_aload_n 4 dL_law__2171 rfl ?_
                                                                    refine j_callVi (c_X12_thrown G  q330.2) cv_RL_124 rfl sh_193 (by decide) rfl (by decide) rfl rfl (Nat.le_of_ble_eq_true rfl) dL_law__2172 (by omega) ?_
                                                                    refine j_iload 1 dL_law__2175 rfl ?_
                                                                    refine j_icmp_eq 2182 dL_law__2177 (by decide) (fun z331 => ?_) (fun z331 => ?_)
                                                                    · replace hL := (if_pos z331).symm.trans hL
                                                                      refine j_iload 1 dL_law__2182 rfl ?_
                                                                      refine j_if_ne 2199 dL_law__2184 (by decide) (fun z332 => ?_) (fun z332 => ?_)
                                                                      · replace hL := (if_neg z332).symm.trans hL
                                                                        refine j_goto 2466 dL_law__2199 (by decide) ?_
                                                                        refine j_iinc (lv' := [(4, .int (v4 + 6)), (6, .int q330.1), (5, .int q326.1), (0, .ref (gX G)), (1, .ref (ad G 0)), (2, .ref (ad G 193)), (3, .ref (ad G 236))]) 6 dL_law__2466 rfl rfl (by decide) rfl ?_
                                                                        refine j_goto 23 dL_law__2469 (by decide) ?_
                                                                        refine j_sub [3, 4, 5, 6, 0] rfl ?_
                                                                        refine j_widen (q' := q + 8) (by omega) ?_
                                                                        exact ih (v4 + 6) q330.2 (q + 8) r hL (by omega) kE kR
                                                                      · replace hL := (if_pos z332).symm.trans hL
                                                                        refine j_aload_n 5 dL_law__2187 rfl ?_
                                                                        refine j_iconst 0 dL_law__2188 (by decide) ?_
                                                                        obtain ⟨g333, hL⟩ := gd_ex hL
                                                                        refine j_lald sh_236 (ib_in g333) dL_law__2189 ?_
                                                                        refine j_iload 0 dL_law__2190 rfl ?_
                                                                        refine j_i2l dL_law__2192 ?_
                                                                        refine j_lcmp dL_law__2193 ?_
                                                                        refine j_if_eq 2199 dL_law__2194 (by decide) (fun z334 => ?_) (fun z334 => ?_)
                                                                        · replace hL := (if_pos z334).symm.trans hL
                                                                          refine j_goto 2466 dL_law__2199 (by decide) ?_
                                                                          refine j_iinc (lv' := [(4, .int (v4 + 6)), (6, .int q330.1), (5, .int q326.1), (0, .ref (gX G)), (1, .ref (ad G 0)), (2, .ref (ad G 193)), (3, .ref (ad G 236))]) 6 dL_law__2466 rfl rfl (by decide) rfl ?_
                                                                          refine j_goto 23 dL_law__2469 (by decide) ?_
                                                                          refine j_sub [3, 4, 5, 6, 0] rfl ?_
                                                                          refine j_widen (q' := q + 8) (by omega) ?_
                                                                          exact ih (v4 + 6) q330.2 (q + 8) r hL (by omega) kE kR
                                                                        · replace hL := (if_neg z334).symm.trans hL
                                                                          refine j_iconst 0 dL_law__2197 (by decide) ?_
                                                                          cases hL
                                                                          exact (kR _ rfl).elim
                                                                    · replace hL := (if_neg z331).symm.trans hL
                                                                      refine j_iconst 0 dL_law__2180 (by decide) ?_
                                                                      cases hL
                                                                      exact (kR _ rfl).elim
                                                                  · replace hL := (if_neg z322).symm.trans hL
                                                                    by_cases z335 : (((gS G) (cl v4)) &&& 63) = 31
                                                                    · replace hL := (if_pos z335).symm.trans hL
                                                                      refine j_swIn 2202 dL_law__40 (by rw [z335]; decide) (by rw [z335]; decide) (by rw [z335]; rfl) (by decide) ?_
                                                                      refine j_aload_n 1 dL_law__2202 rfl ?_
                                                                      refine j_aload_n 0 dL_law__2203 rfl ?_
                                                                      refine j_iload 4 dL_law__2204 rfl ?_
                                                                      refine j_iconst 1 dL_law__2206 (by decide) ?_
                                                                      refine j_iadd dL_law__2207 ?_
                                                                      obtain ⟨g336, hL⟩ := gd_ex hL
                                                                      refine j_scr (ib_in g336) dL_law__2208 ?_
                                                                      refine j_aload_n 0 dL_law__2209 rfl ?_
                                                                      refine j_iload 4 dL_law__2210 rfl ?_
                                                                      refine j_iconst 2 dL_law__2212 (by decide) ?_
                                                                      refine j_iadd dL_law__2213 ?_
                                                                      obtain ⟨g337, hL⟩ := gd_ex hL
                                                                      refine j_scr (ib_in g337) dL_law__2214 ?_
                                                                      refine j_aload_n 0 dL_law__2215 rfl ?_
                                                                      refine j_iload 4 dL_law__2216 rfl ?_
                                                                      refine j_iconst 3 dL_law__2218 (by decide) ?_
                                                                      refine j_iadd dL_law__2219 ?_
                                                                      obtain ⟨g338, hL⟩ := gd_ex hL
                                                                      refine j_scr (ib_in g338) dL_law__2220 ?_
                                                                      refine j_aload_n 0 dL_law__2221 rfl ?_
                                                                      refine j_iload 4 dL_law__2222 rfl ?_
                                                                      refine j_iconst 4 dL_law__2224 (by decide) ?_
                                                                      refine j_iadd dL_law__2225 ?_
                                                                      obtain ⟨g339, hL⟩ := gd_ex hL
                                                                      refine j_scr (ib_in g339) dL_law__2226 ?_
                                                                      refine j_aload_n 3 dL_law__2227 rfl ?_
                                                                      obtain ⟨q340, hq340, hL⟩ := bnd_ex hL
                                                                      refine j_callW (c_L_before G ((gS G) (cl (v4 + 1))) ((gS G) (cl (v4 + 2))) ((gS G) (cl (v4 + 3))) ((gS G) (cl (v4 + 4))) h _ hq340) ch_RL_221 rfl (by decide) rfl rfl (Nat.le_of_ble_eq_true rfl) dL_law__2228 (by omega) ?_
                                                                      refine j_istore (lv' := [(5, .int q340.1), (0, .ref (gX G)), (1, .ref (ad G 0)), (2, .ref (ad G 193)), (3, .ref (ad G 236)), (4, .int v4)]) dL_law__2231 (by decide) rfl ?_
                                                                      refine j_aload_n 3 dL_law__2233 rfl ?_
                                                                      refine j_aload_n 1 dL_law__2234 rfl ?_
                                                                      refine j_iload 5 dL_law__2235 rfl ?_
                                                                      refine j_iconst 1 dL_law__2237 (by decide) ?_
                                                                      refine j_iadd dL_law__2238 ?_
                                                                      obtain ⟨g341, hL⟩ := gd_ex hL
                                                                      refine j_scr (ib_in g341) dL_law__2239 ?_
                                                                      refine j_aload_n 1 dL_law__2240 rfl ?_
                                                                      refine j_iload 5 dL_law__2241 rfl ?_
                                                                      refine j_iconst 2 dL_law__2243 (by decide) ?_
                                                                      refine j_iadd dL_law__2244 ?_
                                                                      obtain ⟨g342, hL⟩ := gd_ex hL
                                                                      refine j_scr (ib_in g342) dL_law__2245 ?_
                                                                      refine j_aload_n 1 dL_law__2246 rfl ?_
                                                                      refine j_iload 5 dL_law__2247 rfl ?_
                                                                      refine j_iconst 3 dL_law__2249 (by decide) ?_
                                                                      refine j_iadd dL_law__2250 ?_
                                                                      obtain ⟨g343, hL⟩ := gd_ex hL
                                                                      refine j_scr (ib_in g343) dL_law__2251 ?_
                                                                      refine j_aload_n 1 dL_law__2252 rfl ?_
                                                                      refine j_iload 5 dL_law__2253 rfl ?_
                                                                      refine j_iconst 4 dL_law__2255 (by decide) ?_
                                                                      refine j_iadd dL_law__2256 ?_
                                                                      obtain ⟨g344, hL⟩ := gd_ex hL
                                                                      refine j_scr (ib_in g344) dL_law__2257 ?_
                                                                      obtain ⟨q345, hq345, hL⟩ := bnd_ex hL
                                                                      refine j_callVi (c_X12_before G ((gS G) (cl (v4 + 1))) ((gS G) (cl (v4 + 2))) ((gS G) (cl (v4 + 3))) ((gS G) (cl (v4 + 4))) q340.2 _ hq345) cv_RL_223 rfl sh_193 (by decide) rfl (by decide) rfl rfl (Nat.le_of_ble_eq_true rfl) dL_law__2258 (by omega) ?_
                                                                      refine j_istore (lv' := [(6, .int q345.1), (5, .int q340.1), (0, .ref (gX G)), (1, .ref (ad G 0)), (2, .ref (ad G 193)), (3, .ref (ad G 236)), (4, .int v4)]) dL_law__2261 (by decide) rfl ?_
                                                                      refine j_aload_n 4 dL_law__2263 rfl ?_
                                                                      refine j_callVi (c_X12_thrown G  q345.2) cv_RL_124 rfl sh_193 (by decide) rfl (by decide) rfl rfl (Nat.le_of_ble_eq_true rfl) dL_law__2264 (by omega) ?_
                                                                      refine j_iload 1 dL_law__2267 rfl ?_
                                                                      refine j_icmp_eq 2274 dL_law__2269 (by decide) (fun z346 => ?_) (fun z346 => ?_)
                                                                      · replace hL := (if_pos z346).symm.trans hL
                                                                        refine j_iload 1 dL_law__2274 rfl ?_
                                                                        refine j_if_ne 2291 dL_law__2276 (by decide) (fun z347 => ?_) (fun z347 => ?_)
                                                                        · replace hL := (if_neg z347).symm.trans hL
                                                                          refine j_goto 2466 dL_law__2291 (by decide) ?_
                                                                          refine j_iinc (lv' := [(4, .int (v4 + 6)), (6, .int q345.1), (5, .int q340.1), (0, .ref (gX G)), (1, .ref (ad G 0)), (2, .ref (ad G 193)), (3, .ref (ad G 236))]) 6 dL_law__2466 rfl rfl (by decide) rfl ?_
                                                                          refine j_goto 23 dL_law__2469 (by decide) ?_
                                                                          refine j_sub [3, 4, 5, 6, 0] rfl ?_
                                                                          refine j_widen (q' := q + 8) (by omega) ?_
                                                                          exact ih (v4 + 6) q345.2 (q + 8) r hL (by omega) kE kR
                                                                        · replace hL := (if_pos z347).symm.trans hL
                                                                          refine j_aload_n 5 dL_law__2279 rfl ?_
                                                                          refine j_iconst 0 dL_law__2280 (by decide) ?_
                                                                          obtain ⟨g348, hL⟩ := gd_ex hL
                                                                          refine j_lald sh_236 (ib_in g348) dL_law__2281 ?_
                                                                          refine j_iload 0 dL_law__2282 rfl ?_
                                                                          refine j_i2l dL_law__2284 ?_
                                                                          refine j_lcmp dL_law__2285 ?_
                                                                          refine j_if_eq 2291 dL_law__2286 (by decide) (fun z349 => ?_) (fun z349 => ?_)
                                                                          · replace hL := (if_pos z349).symm.trans hL
                                                                            refine j_goto 2466 dL_law__2291 (by decide) ?_
                                                                            refine j_iinc (lv' := [(4, .int (v4 + 6)), (6, .int q345.1), (5, .int q340.1), (0, .ref (gX G)), (1, .ref (ad G 0)), (2, .ref (ad G 193)), (3, .ref (ad G 236))]) 6 dL_law__2466 rfl rfl (by decide) rfl ?_
                                                                            refine j_goto 23 dL_law__2469 (by decide) ?_
                                                                            refine j_sub [3, 4, 5, 6, 0] rfl ?_
                                                                            refine j_widen (q' := q + 8) (by omega) ?_
                                                                            exact ih (v4 + 6) q345.2 (q + 8) r hL (by omega) kE kR
                                                                          · replace hL := (if_neg z349).symm.trans hL
                                                                            refine j_iconst 0 dL_law__2289 (by decide) ?_
                                                                            cases hL
                                                                            exact (kR _ rfl).elim
                                                                      · replace hL := (if_neg z346).symm.trans hL
                                                                        refine j_iconst 0 dL_law__2272 (by decide) ?_
                                                                        cases hL
                                                                        exact (kR _ rfl).elim
                                                                    · replace hL := (if_neg z335).symm.trans hL
                                                                      by_cases z350 : (((gS G) (cl v4)) &&& 63) = 32
                                                                      · replace hL := (if_pos z350).symm.trans hL
                                                                        refine j_swIn 2294 dL_law__40 (by rw [z350]; decide) (by rw [z350]; decide) (by rw [z350]; rfl) (by decide) ?_
                                                                        refine j_aload_n 1 dL_law__2294 rfl ?_
                                                                        refine j_aload_n 0 dL_law__2295 rfl ?_
                                                                        refine j_iload 4 dL_law__2296 rfl ?_
                                                                        refine j_iconst 1 dL_law__2298 (by decide) ?_
                                                                        refine j_iadd dL_law__2299 ?_
                                                                        obtain ⟨g351, hL⟩ := gd_ex hL
                                                                        refine j_scr (ib_in g351) dL_law__2300 ?_
                                                                        refine j_aload_n 0 dL_law__2301 rfl ?_
                                                                        refine j_iload 4 dL_law__2302 rfl ?_
                                                                        refine j_iconst 2 dL_law__2304 (by decide) ?_
                                                                        refine j_iadd dL_law__2305 ?_
                                                                        obtain ⟨g352, hL⟩ := gd_ex hL
                                                                        refine j_scr (ib_in g352) dL_law__2306 ?_
                                                                        refine j_aload_n 0 dL_law__2307 rfl ?_
                                                                        refine j_iload 4 dL_law__2308 rfl ?_
                                                                        refine j_iconst 3 dL_law__2310 (by decide) ?_
                                                                        refine j_iadd dL_law__2311 ?_
                                                                        obtain ⟨g353, hL⟩ := gd_ex hL
                                                                        refine j_scr (ib_in g353) dL_law__2312 ?_
                                                                        refine j_aload_n 0 dL_law__2313 rfl ?_
                                                                        refine j_iload 4 dL_law__2314 rfl ?_
                                                                        refine j_iconst 4 dL_law__2316 (by decide) ?_
                                                                        refine j_iadd dL_law__2317 ?_
                                                                        obtain ⟨g354, hL⟩ := gd_ex hL
                                                                        refine j_scr (ib_in g354) dL_law__2318 ?_
                                                                        refine j_aload_n 3 dL_law__2319 rfl ?_
                                                                        obtain ⟨q355, hq355, hL⟩ := bnd_ex hL
                                                                        refine j_callW (c_L_told G ((gS G) (cl (v4 + 1))) ((gS G) (cl (v4 + 2))) ((gS G) (cl (v4 + 3))) ((gS G) (cl (v4 + 4))) h _ hq355) ch_RL_224 rfl (by decide) rfl rfl (Nat.le_of_ble_eq_true rfl) dL_law__2320 (by omega) ?_
                                                                        refine j_istore (lv' := [(5, .int q355.1), (0, .ref (gX G)), (1, .ref (ad G 0)), (2, .ref (ad G 193)), (3, .ref (ad G 236)), (4, .int v4)]) dL_law__2323 (by decide) rfl ?_
                                                                        refine j_aload_n 3 dL_law__2325 rfl ?_
                                                                        refine j_aload_n 1 dL_law__2326 rfl ?_
                                                                        refine j_iload 5 dL_law__2327 rfl ?_
                                                                        refine j_iconst 1 dL_law__2329 (by decide) ?_
                                                                        refine j_iadd dL_law__2330 ?_
                                                                        obtain ⟨g356, hL⟩ := gd_ex hL
                                                                        refine j_scr (ib_in g356) dL_law__2331 ?_
                                                                        refine j_aload_n 1 dL_law__2332 rfl ?_
                                                                        refine j_iload 5 dL_law__2333 rfl ?_
                                                                        refine j_iconst 2 dL_law__2335 (by decide) ?_
                                                                        refine j_iadd dL_law__2336 ?_
                                                                        obtain ⟨g357, hL⟩ := gd_ex hL
                                                                        refine j_scr (ib_in g357) dL_law__2337 ?_
                                                                        refine j_aload_n 1 dL_law__2338 rfl ?_
                                                                        refine j_iload 5 dL_law__2339 rfl ?_
                                                                        refine j_iconst 3 dL_law__2341 (by decide) ?_
                                                                        refine j_iadd dL_law__2342 ?_
                                                                        obtain ⟨g358, hL⟩ := gd_ex hL
                                                                        refine j_scr (ib_in g358) dL_law__2343 ?_
                                                                        refine j_aload_n 1 dL_law__2344 rfl ?_
                                                                        refine j_iload 5 dL_law__2345 rfl ?_
                                                                        refine j_iconst 4 dL_law__2347 (by decide) ?_
                                                                        refine j_iadd dL_law__2348 ?_
                                                                        obtain ⟨g359, hL⟩ := gd_ex hL
                                                                        refine j_scr (ib_in g359) dL_law__2349 ?_
                                                                        obtain ⟨q360, hq360, hL⟩ := bnd_ex hL
                                                                        refine j_callVi (c_X12_told G ((gS G) (cl (v4 + 1))) ((gS G) (cl (v4 + 2))) ((gS G) (cl (v4 + 3))) ((gS G) (cl (v4 + 4))) q355.2 _ hq360) cv_RL_226 rfl sh_193 (by decide) rfl (by decide) rfl rfl (Nat.le_of_ble_eq_true rfl) dL_law__2350 (by omega) ?_
                                                                        refine j_istore (lv' := [(6, .int q360.1), (5, .int q355.1), (0, .ref (gX G)), (1, .ref (ad G 0)), (2, .ref (ad G 193)), (3, .ref (ad G 236)), (4, .int v4)]) dL_law__2353 (by decide) rfl ?_
                                                                        refine j_aload_n 4 dL_law__2355 rfl ?_
                                                                        refine j_callVi (c_X12_thrown G  q360.2) cv_RL_124 rfl sh_193 (by decide) rfl (by decide) rfl rfl (Nat.le_of_ble_eq_true rfl) dL_law__2356 (by omega) ?_
                                                                        refine j_iload 1 dL_law__2359 rfl ?_
                                                                        refine j_icmp_eq 2366 dL_law__2361 (by decide) (fun z361 => ?_) (fun z361 => ?_)
                                                                        · replace hL := (if_pos z361).symm.trans hL
                                                                          refine j_iload 1 dL_law__2366 rfl ?_
                                                                          refine j_if_ne 2383 dL_law__2368 (by decide) (fun z362 => ?_) (fun z362 => ?_)
                                                                          · replace hL := (if_neg z362).symm.trans hL
                                                                            refine j_goto 2466 dL_law__2383 (by decide) ?_
                                                                            refine j_iinc (lv' := [(4, .int (v4 + 6)), (6, .int q360.1), (5, .int q355.1), (0, .ref (gX G)), (1, .ref (ad G 0)), (2, .ref (ad G 193)), (3, .ref (ad G 236))]) 6 dL_law__2466 rfl rfl (by decide) rfl ?_
                                                                            refine j_goto 23 dL_law__2469 (by decide) ?_
                                                                            refine j_sub [3, 4, 5, 6, 0] rfl ?_
                                                                            refine j_widen (q' := q + 8) (by omega) ?_
                                                                            exact ih (v4 + 6) q360.2 (q + 8) r hL (by omega) kE kR
                                                                          · replace hL := (if_pos z362).symm.trans hL
                                                                            refine j_aload_n 5 dL_law__2371 rfl ?_
                                                                            refine j_iconst 0 dL_law__2372 (by decide) ?_
                                                                            obtain ⟨g363, hL⟩ := gd_ex hL
                                                                            refine j_lald sh_236 (ib_in g363) dL_law__2373 ?_
                                                                            refine j_iload 0 dL_law__2374 rfl ?_
                                                                            refine j_i2l dL_law__2376 ?_
                                                                            refine j_lcmp dL_law__2377 ?_
                                                                            refine j_if_eq 2383 dL_law__2378 (by decide) (fun z364 => ?_) (fun z364 => ?_)
                                                                            · replace hL := (if_pos z364).symm.trans hL
                                                                              refine j_goto 2466 dL_law__2383 (by decide) ?_
                                                                              refine j_iinc (lv' := [(4, .int (v4 + 6)), (6, .int q360.1), (5, .int q355.1), (0, .ref (gX G)), (1, .ref (ad G 0)), (2, .ref (ad G 193)), (3, .ref (ad G 236))]) 6 dL_law__2466 rfl rfl (by decide) rfl ?_
                                                                              refine j_goto 23 dL_law__2469 (by decide) ?_
                                                                              refine j_sub [3, 4, 5, 6, 0] rfl ?_
                                                                              refine j_widen (q' := q + 8) (by omega) ?_
                                                                              exact ih (v4 + 6) q360.2 (q + 8) r hL (by omega) kE kR
                                                                            · replace hL := (if_neg z364).symm.trans hL
                                                                              refine j_iconst 0 dL_law__2381 (by decide) ?_
                                                                              cases hL
                                                                              exact (kR _ rfl).elim
                                                                        · replace hL := (if_neg z361).symm.trans hL
                                                                          refine j_iconst 0 dL_law__2364 (by decide) ?_
                                                                          cases hL
                                                                          exact (kR _ rfl).elim
                                                                      · replace hL := (if_neg z350).symm.trans hL
                                                                        by_cases z365 : (((gS G) (cl v4)) &&& 63) = 33
                                                                        · replace hL := (if_pos z365).symm.trans hL
                                                                          refine j_swIn 2386 dL_law__40 (by rw [z365]; decide) (by rw [z365]; decide) (by rw [z365]; rfl) (by decide) ?_
                                                                          refine j_aload_n 1 dL_law__2386 rfl ?_
                                                                          refine j_aload_n 0 dL_law__2387 rfl ?_
                                                                          refine j_iload 4 dL_law__2388 rfl ?_
                                                                          refine j_iconst 1 dL_law__2390 (by decide) ?_
                                                                          refine j_iadd dL_law__2391 ?_
                                                                          obtain ⟨g366, hL⟩ := gd_ex hL
                                                                          refine j_scr (ib_in g366) dL_law__2392 ?_
                                                                          refine j_aload_n 3 dL_law__2393 rfl ?_
                                                                          obtain ⟨q367, hq367, hL⟩ := bnd_ex hL
                                                                          refine j_callW (c_L_next G ((gS G) (cl (v4 + 1))) h _ hq367) ch_RL_227 rfl (by decide) rfl rfl (Nat.le_of_ble_eq_true rfl) dL_law__2394 (by omega) ?_
                                                                          refine j_istore (lv' := [(5, .int q367.1), (0, .ref (gX G)), (1, .ref (ad G 0)), (2, .ref (ad G 193)), (3, .ref (ad G 236)), (4, .int v4)]) dL_law__2397 (by decide) rfl ?_
                                                                          refine j_aload_n 3 dL_law__2399 rfl ?_
                                                                          refine j_aload_n 1 dL_law__2400 rfl ?_
                                                                          refine j_iload 5 dL_law__2401 rfl ?_
                                                                          refine j_iconst 1 dL_law__2403 (by decide) ?_
                                                                          refine j_iadd dL_law__2404 ?_
                                                                          obtain ⟨g368, hL⟩ := gd_ex hL
                                                                          refine j_scr (ib_in g368) dL_law__2405 ?_
                                                                          obtain ⟨q369, hq369, hL⟩ := bnd_ex hL
                                                                          refine j_callVi (c_X12_next G ((gS G) (cl (v4 + 1))) q367.2 _ hq369) cv_RL_229 rfl sh_193 (by decide) rfl (by decide) rfl rfl (Nat.le_of_ble_eq_true rfl) dL_law__2406 (by omega) ?_
                                                                          refine j_istore (lv' := [(6, .int q369.1), (5, .int q367.1), (0, .ref (gX G)), (1, .ref (ad G 0)), (2, .ref (ad G 193)), (3, .ref (ad G 236)), (4, .int v4)]) dL_law__2409 (by decide) rfl ?_
                                                                          refine j_aload_n 4 dL_law__2411 rfl ?_
                                                                          refine j_callVi (c_X12_thrown G  q369.2) cv_RL_124 rfl sh_193 (by decide) rfl (by decide) rfl rfl (Nat.le_of_ble_eq_true rfl) dL_law__2412 (by omega) ?_
                                                                          refine j_iload 1 dL_law__2415 rfl ?_
                                                                          refine j_icmp_eq 2422 dL_law__2417 (by decide) (fun z370 => ?_) (fun z370 => ?_)
                                                                          · replace hL := (if_pos z370).symm.trans hL
                                                                            refine j_iload 1 dL_law__2422 rfl ?_
                                                                            refine j_if_ne 2439 dL_law__2424 (by decide) (fun z371 => ?_) (fun z371 => ?_)
                                                                            · replace hL := (if_neg z371).symm.trans hL
                                                                              refine j_goto 2466 dL_law__2439 (by decide) ?_
                                                                              refine j_iinc (lv' := [(4, .int (v4 + 6)), (6, .int q369.1), (5, .int q367.1), (0, .ref (gX G)), (1, .ref (ad G 0)), (2, .ref (ad G 193)), (3, .ref (ad G 236))]) 6 dL_law__2466 rfl rfl (by decide) rfl ?_
                                                                              refine j_goto 23 dL_law__2469 (by decide) ?_
                                                                              refine j_sub [3, 4, 5, 6, 0] rfl ?_
                                                                              refine j_widen (q' := q + 8) (by omega) ?_
                                                                              exact ih (v4 + 6) q369.2 (q + 8) r hL (by omega) kE kR
                                                                            · replace hL := (if_pos z371).symm.trans hL
                                                                              refine j_aload_n 5 dL_law__2427 rfl ?_
                                                                              refine j_iconst 0 dL_law__2428 (by decide) ?_
                                                                              obtain ⟨g372, hL⟩ := gd_ex hL
                                                                              refine j_lald sh_236 (ib_in g372) dL_law__2429 ?_
                                                                              refine j_iload 0 dL_law__2430 rfl ?_
                                                                              refine j_i2l dL_law__2432 ?_
                                                                              refine j_lcmp dL_law__2433 ?_
                                                                              refine j_if_eq 2439 dL_law__2434 (by decide) (fun z373 => ?_) (fun z373 => ?_)
                                                                              · replace hL := (if_pos z373).symm.trans hL
                                                                                refine j_goto 2466 dL_law__2439 (by decide) ?_
                                                                                refine j_iinc (lv' := [(4, .int (v4 + 6)), (6, .int q369.1), (5, .int q367.1), (0, .ref (gX G)), (1, .ref (ad G 0)), (2, .ref (ad G 193)), (3, .ref (ad G 236))]) 6 dL_law__2466 rfl rfl (by decide) rfl ?_
                                                                                refine j_goto 23 dL_law__2469 (by decide) ?_
                                                                                refine j_sub [3, 4, 5, 6, 0] rfl ?_
                                                                                refine j_widen (q' := q + 8) (by omega) ?_
                                                                                exact ih (v4 + 6) q369.2 (q + 8) r hL (by omega) kE kR
                                                                              · replace hL := (if_neg z373).symm.trans hL
                                                                                refine j_iconst 0 dL_law__2437 (by decide) ?_
                                                                                cases hL
                                                                                exact (kR _ rfl).elim
                                                                          · replace hL := (if_neg z370).symm.trans hL
                                                                            refine j_iconst 0 dL_law__2420 (by decide) ?_
                                                                            cases hL
                                                                            exact (kR _ rfl).elim
                                                                        · replace hL := (if_neg z365).symm.trans hL
                                                                          by_cases z374 : (((gS G) (cl v4)) &&& 63) = 34
                                                                          · replace hL := (if_pos z374).symm.trans hL
                                                                            refine j_swIn 2442 dL_law__40 (by rw [z374]; decide) (by rw [z374]; decide) (by rw [z374]; rfl) (by decide) ?_
                                                                            refine j_aload_n 1 dL_law__2442 rfl ?_
                                                                            obtain ⟨q375, hq375, hL⟩ := bnd_ex hL
                                                                            refine j_callVv (c_X11_image G  h _ hq375) cv_RL_230 rfl sh_0 (by decide) rfl (by decide) rfl rfl (Nat.le_of_ble_eq_true rfl) dL_law__2443 (by omega) ?_
                                                                            refine j_aload_n 2 dL_law__2446 rfl ?_
                                                                            obtain ⟨q376, hq376, hL⟩ := bnd_ex hL
                                                                            refine j_callVv (c_X12_image G  q375 _ hq376) cv_RL_233 rfl sh_193 (by decide) rfl (by decide) rfl rfl (Nat.le_of_ble_eq_true rfl) dL_law__2447 (by omega) ?_
                                                                            refine j_goto 2466 dL_law__2450 (by decide) ?_
                                                                            refine j_iinc (lv' := [(4, .int (v4 + 6)), (0, .ref (gX G)), (1, .ref (ad G 0)), (2, .ref (ad G 193)), (3, .ref (ad G 236))]) 4 dL_law__2466 rfl rfl (by decide) rfl ?_
                                                                            refine j_goto 23 dL_law__2469 (by decide) ?_
                                                                            refine j_sub [1, 2, 3, 4, 0] rfl ?_
                                                                            refine j_widen (q' := q + 8) (by omega) ?_
                                                                            exact ih (v4 + 6) q376 (q + 8) r hL (by omega) kE kR
                                                                          · replace hL := (if_neg z374).symm.trans hL
                                                                            by_cases z377 : (((gS G) (cl v4)) &&& 63) = 35
                                                                            · replace hL := (if_pos z377).symm.trans hL
                                                                              refine j_swIn 2453 dL_law__40 (by rw [z377]; decide) (by rw [z377]; decide) (by rw [z377]; rfl) (by decide) ?_
                                                                              refine j_aload_n 1 dL_law__2453 rfl ?_
                                                                              obtain ⟨q378, hq378, hL⟩ := bnd_ex hL
                                                                              refine j_callVi (c_X11_restore G  h _ hq378) cv_RL_234 rfl sh_0 (by decide) rfl (by decide) rfl rfl (Nat.le_of_ble_eq_true rfl) dL_law__2454 (by omega) ?_
                                                                              refine j_aload_n 2 dL_law__2457 rfl ?_
                                                                              obtain ⟨q379, hq379, hL⟩ := bnd_ex hL
                                                                              refine j_callVi (c_X12_restore G  q378.2 _ hq379) cv_RL_238 rfl sh_193 (by decide) rfl (by decide) rfl rfl (Nat.le_of_ble_eq_true rfl) dL_law__2458 (by omega) ?_
                                                                              refine j_icmp_eq 2466 dL_law__2461 (by decide) (fun z380 => ?_) (fun z380 => ?_)
                                                                              · replace hL := (if_pos z380).symm.trans hL
                                                                                refine j_iinc (lv' := [(4, .int (v4 + 6)), (0, .ref (gX G)), (1, .ref (ad G 0)), (2, .ref (ad G 193)), (3, .ref (ad G 236))]) 4 dL_law__2466 rfl rfl (by decide) rfl ?_
                                                                                refine j_goto 23 dL_law__2469 (by decide) ?_
                                                                                refine j_sub [1, 2, 3, 4, 0] rfl ?_
                                                                                refine j_widen (q' := q + 8) (by omega) ?_
                                                                                exact ih (v4 + 6) q379.2 (q + 8) r hL (by omega) kE kR
                                                                              · replace hL := (if_neg z380).symm.trans hL
                                                                                refine j_iconst 0 dL_law__2464 (by decide) ?_
                                                                                cases hL
                                                                                exact (kR _ rfl).elim
                                                                            · replace hL := (if_neg z377).symm.trans hL
                                                                              refine j_swOut 2466 dL_law__40 (sw_out (by have wz3 := sw_ne z3 (k := 0) (by decide); have wz17 := sw_ne z17 (k := 1) (by decide); have wz28 := sw_ne z28 (k := 2) (by decide); have wz37 := sw_ne z37 (k := 3) (by decide); have wz48 := sw_ne z48 (k := 4) (by decide); have wz51 := sw_ne z51 (k := 5) (by decide); have wz60 := sw_ne z60 (k := 6) (by decide); have wz71 := sw_ne z71 (k := 7) (by decide); have wz84 := sw_ne z84 (k := 8) (by decide); have wz97 := sw_ne z97 (k := 9) (by decide); have wz112 := sw_ne z112 (k := 10) (by decide); have wz121 := sw_ne z121 (k := 11) (by decide); have wz134 := sw_ne z134 (k := 12) (by decide); have wz145 := sw_ne z145 (k := 13) (by decide); have wz160 := sw_ne z160 (k := 14) (by decide); have wz173 := sw_ne z173 (k := 15) (by decide); have wz184 := sw_ne z184 (k := 16) (by decide); have wz195 := sw_ne z195 (k := 17) (by decide); have wz206 := sw_ne z206 (k := 18) (by decide); have wz219 := sw_ne z219 (k := 19) (by decide); have wz232 := sw_ne z232 (k := 20) (by decide); have wz241 := sw_ne z241 (k := 21) (by decide); have wz250 := sw_ne z250 (k := 22) (by decide); have wz261 := sw_ne z261 (k := 23) (by decide); have wz272 := sw_ne z272 (k := 24) (by decide); have wz280 := sw_ne z280 (k := 25) (by decide); have wz284 := sw_ne z284 (k := 26) (by decide); have wz293 := sw_ne z293 (k := 27) (by decide); have wz302 := sw_ne z302 (k := 28) (by decide); have wz313 := sw_ne z313 (k := 29) (by decide); have wz322 := sw_ne z322 (k := 30) (by decide); have wz335 := sw_ne z335 (k := 31) (by decide); have wz350 := sw_ne z350 (k := 32) (by decide); have wz365 := sw_ne z365 (k := 33) (by decide); have wz374 := sw_ne z374 (k := 34) (by decide); have wz377 := sw_ne z377 (k := 35) (by decide); omega)) (by decide) ?_
                                                                              refine j_iinc (lv' := [(4, .int (v4 + 6)), (0, .ref (gX G)), (1, .ref (ad G 0)), (2, .ref (ad G 193)), (3, .ref (ad G 236))]) 4 dL_law__2466 rfl rfl (by decide) rfl ?_
                                                                              refine j_goto 23 dL_law__2469 (by decide) ?_
                                                                              refine j_sub [1, 2, 3, 4, 0] rfl ?_
                                                                              refine j_widen (q' := q + 8) (by omega) ?_
                                                                              exact ih (v4 + 6) h (q + 8) r hL (by omega) kE kR
