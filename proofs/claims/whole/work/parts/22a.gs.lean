/-! 22a GS: what a getter says of a state in which one thing was set -/
theorem gs_cOC_OC (S : CS) (v : Int32) : cOC (cOC_s S v) = v := rfl
theorem gs_cOC_NC (S : CS) (v : Int32) : cOC (cNC_s S v) = cOC S := rfl
theorem gs_cOC_IC (S : CS) (v : Int32) : cOC (cIC_s S v) = cOC S := rfl
theorem gs_cOC_CC (S : CS) (v : Int32) : cOC (cCC_s S v) = cOC S := rfl
theorem gs_cOC_SE (S : CS) (v : Int32) : cOC (cSE_s S v) = cOC S := rfl
theorem gs_cOC_OL (S : CS) (v : Nat → Int32) : cOC (cOL_s S v) = cOC S := rfl
theorem gs_cOC_IN (S : CS) (v : Nat → Int32) : cOC (cIN_s S v) = cOC S := rfl
theorem gs_cOC_LE (S : CS) (v : Nat → Int32) : cOC (cLE_s S v) = cOC S := rfl
theorem gs_cOC_RI (S : CS) (v : Nat → Int32) : cOC (cRI_s S v) = cOC S := rfl
theorem gs_cOC_IT (S : CS) (v : Nat → Int32) : cOC (cIT_s S v) = cOC S := rfl
theorem gs_cOC_ST (S : CS) (v : Nat → Int32) : cOC (cST_s S v) = cOC S := rfl
theorem gs_cOC_TB (S : CS) (v : Nat → Int32) : cOC (cTB_s S v) = cOC S := rfl
theorem gs_cOC_PI (S : CS) (v : Nat → Int32) : cOC (cPI_s S v) = cOC S := rfl
theorem gs_cOC_TR (S : CS) (v : Nat → Int32) : cOC (cTR_s S v) = cOC S := rfl
theorem gs_cOC_AR (S : CS) (v : Nat → Int32) : cOC (cAR_s S v) = cOC S := rfl
theorem gs_cOC_DE (S : CS) (v : Nat → Int32) : cOC (cDE_s S v) = cOC S := rfl
theorem gs_cOC_AG (S : CS) (v : Nat → Int32) : cOC (cAG_s S v) = cOC S := rfl
theorem gs_cOC_GA (S : CS) (v : Nat → Int64) : cOC (cGA_s S v) = cOC S := rfl
theorem gs_cOC_LN (S : CS) (v : Nat → Int32) : cOC (cLN_s S v) = cOC S := rfl
theorem gs_cOC_LVa (S : CS) (v : Nat) : cOC (cLVa_s S v) = cOC S := rfl
theorem gs_cOC_LVn (S : CS) (v : Nat) : cOC (cLVn_s S v) = cOC S := rfl
theorem gs_cOC_LV (S : CS) (v : Nat → Int32) : cOC (cLV_s S v) = cOC S := rfl
theorem gs_cOC_FNa (S : CS) (v : Nat) : cOC (cFNa_s S v) = cOC S := rfl
theorem gs_cOC_FNn (S : CS) (v : Nat) : cOC (cFNn_s S v) = cOC S := rfl
theorem gs_cOC_FN (S : CS) (v : Nat → Int32) : cOC (cFN_s S v) = cOC S := rfl
theorem gs_cNC_OC (S : CS) (v : Int32) : cNC (cOC_s S v) = cNC S := rfl
theorem gs_cNC_NC (S : CS) (v : Int32) : cNC (cNC_s S v) = v := rfl
theorem gs_cNC_IC (S : CS) (v : Int32) : cNC (cIC_s S v) = cNC S := rfl
theorem gs_cNC_CC (S : CS) (v : Int32) : cNC (cCC_s S v) = cNC S := rfl
theorem gs_cNC_SE (S : CS) (v : Int32) : cNC (cSE_s S v) = cNC S := rfl
theorem gs_cNC_OL (S : CS) (v : Nat → Int32) : cNC (cOL_s S v) = cNC S := rfl
theorem gs_cNC_IN (S : CS) (v : Nat → Int32) : cNC (cIN_s S v) = cNC S := rfl
theorem gs_cNC_LE (S : CS) (v : Nat → Int32) : cNC (cLE_s S v) = cNC S := rfl
theorem gs_cNC_RI (S : CS) (v : Nat → Int32) : cNC (cRI_s S v) = cNC S := rfl
theorem gs_cNC_IT (S : CS) (v : Nat → Int32) : cNC (cIT_s S v) = cNC S := rfl
theorem gs_cNC_ST (S : CS) (v : Nat → Int32) : cNC (cST_s S v) = cNC S := rfl
theorem gs_cNC_TB (S : CS) (v : Nat → Int32) : cNC (cTB_s S v) = cNC S := rfl
theorem gs_cNC_PI (S : CS) (v : Nat → Int32) : cNC (cPI_s S v) = cNC S := rfl
theorem gs_cNC_TR (S : CS) (v : Nat → Int32) : cNC (cTR_s S v) = cNC S := rfl
theorem gs_cNC_AR (S : CS) (v : Nat → Int32) : cNC (cAR_s S v) = cNC S := rfl
theorem gs_cNC_DE (S : CS) (v : Nat → Int32) : cNC (cDE_s S v) = cNC S := rfl
theorem gs_cNC_AG (S : CS) (v : Nat → Int32) : cNC (cAG_s S v) = cNC S := rfl
theorem gs_cNC_GA (S : CS) (v : Nat → Int64) : cNC (cGA_s S v) = cNC S := rfl
theorem gs_cNC_LN (S : CS) (v : Nat → Int32) : cNC (cLN_s S v) = cNC S := rfl
theorem gs_cNC_LVa (S : CS) (v : Nat) : cNC (cLVa_s S v) = cNC S := rfl
theorem gs_cNC_LVn (S : CS) (v : Nat) : cNC (cLVn_s S v) = cNC S := rfl
theorem gs_cNC_LV (S : CS) (v : Nat → Int32) : cNC (cLV_s S v) = cNC S := rfl
theorem gs_cNC_FNa (S : CS) (v : Nat) : cNC (cFNa_s S v) = cNC S := rfl
theorem gs_cNC_FNn (S : CS) (v : Nat) : cNC (cFNn_s S v) = cNC S := rfl
theorem gs_cNC_FN (S : CS) (v : Nat → Int32) : cNC (cFN_s S v) = cNC S := rfl
theorem gs_cIC_OC (S : CS) (v : Int32) : cIC (cOC_s S v) = cIC S := rfl
theorem gs_cIC_NC (S : CS) (v : Int32) : cIC (cNC_s S v) = cIC S := rfl
theorem gs_cIC_IC (S : CS) (v : Int32) : cIC (cIC_s S v) = v := rfl
theorem gs_cIC_CC (S : CS) (v : Int32) : cIC (cCC_s S v) = cIC S := rfl
theorem gs_cIC_SE (S : CS) (v : Int32) : cIC (cSE_s S v) = cIC S := rfl
theorem gs_cIC_OL (S : CS) (v : Nat → Int32) : cIC (cOL_s S v) = cIC S := rfl
theorem gs_cIC_IN (S : CS) (v : Nat → Int32) : cIC (cIN_s S v) = cIC S := rfl
theorem gs_cIC_LE (S : CS) (v : Nat → Int32) : cIC (cLE_s S v) = cIC S := rfl
theorem gs_cIC_RI (S : CS) (v : Nat → Int32) : cIC (cRI_s S v) = cIC S := rfl
theorem gs_cIC_IT (S : CS) (v : Nat → Int32) : cIC (cIT_s S v) = cIC S := rfl
theorem gs_cIC_ST (S : CS) (v : Nat → Int32) : cIC (cST_s S v) = cIC S := rfl
theorem gs_cIC_TB (S : CS) (v : Nat → Int32) : cIC (cTB_s S v) = cIC S := rfl
theorem gs_cIC_PI (S : CS) (v : Nat → Int32) : cIC (cPI_s S v) = cIC S := rfl
theorem gs_cIC_TR (S : CS) (v : Nat → Int32) : cIC (cTR_s S v) = cIC S := rfl
theorem gs_cIC_AR (S : CS) (v : Nat → Int32) : cIC (cAR_s S v) = cIC S := rfl
theorem gs_cIC_DE (S : CS) (v : Nat → Int32) : cIC (cDE_s S v) = cIC S := rfl
theorem gs_cIC_AG (S : CS) (v : Nat → Int32) : cIC (cAG_s S v) = cIC S := rfl
theorem gs_cIC_GA (S : CS) (v : Nat → Int64) : cIC (cGA_s S v) = cIC S := rfl
theorem gs_cIC_LN (S : CS) (v : Nat → Int32) : cIC (cLN_s S v) = cIC S := rfl
theorem gs_cIC_LVa (S : CS) (v : Nat) : cIC (cLVa_s S v) = cIC S := rfl
theorem gs_cIC_LVn (S : CS) (v : Nat) : cIC (cLVn_s S v) = cIC S := rfl
theorem gs_cIC_LV (S : CS) (v : Nat → Int32) : cIC (cLV_s S v) = cIC S := rfl
theorem gs_cIC_FNa (S : CS) (v : Nat) : cIC (cFNa_s S v) = cIC S := rfl
theorem gs_cIC_FNn (S : CS) (v : Nat) : cIC (cFNn_s S v) = cIC S := rfl
theorem gs_cIC_FN (S : CS) (v : Nat → Int32) : cIC (cFN_s S v) = cIC S := rfl
theorem gs_cCC_OC (S : CS) (v : Int32) : cCC (cOC_s S v) = cCC S := rfl
theorem gs_cCC_NC (S : CS) (v : Int32) : cCC (cNC_s S v) = cCC S := rfl
theorem gs_cCC_IC (S : CS) (v : Int32) : cCC (cIC_s S v) = cCC S := rfl
theorem gs_cCC_CC (S : CS) (v : Int32) : cCC (cCC_s S v) = v := rfl
theorem gs_cCC_SE (S : CS) (v : Int32) : cCC (cSE_s S v) = cCC S := rfl
theorem gs_cCC_OL (S : CS) (v : Nat → Int32) : cCC (cOL_s S v) = cCC S := rfl
theorem gs_cCC_IN (S : CS) (v : Nat → Int32) : cCC (cIN_s S v) = cCC S := rfl
theorem gs_cCC_LE (S : CS) (v : Nat → Int32) : cCC (cLE_s S v) = cCC S := rfl
theorem gs_cCC_RI (S : CS) (v : Nat → Int32) : cCC (cRI_s S v) = cCC S := rfl
theorem gs_cCC_IT (S : CS) (v : Nat → Int32) : cCC (cIT_s S v) = cCC S := rfl
theorem gs_cCC_ST (S : CS) (v : Nat → Int32) : cCC (cST_s S v) = cCC S := rfl
theorem gs_cCC_TB (S : CS) (v : Nat → Int32) : cCC (cTB_s S v) = cCC S := rfl
theorem gs_cCC_PI (S : CS) (v : Nat → Int32) : cCC (cPI_s S v) = cCC S := rfl
theorem gs_cCC_TR (S : CS) (v : Nat → Int32) : cCC (cTR_s S v) = cCC S := rfl
theorem gs_cCC_AR (S : CS) (v : Nat → Int32) : cCC (cAR_s S v) = cCC S := rfl
theorem gs_cCC_DE (S : CS) (v : Nat → Int32) : cCC (cDE_s S v) = cCC S := rfl
theorem gs_cCC_AG (S : CS) (v : Nat → Int32) : cCC (cAG_s S v) = cCC S := rfl
theorem gs_cCC_GA (S : CS) (v : Nat → Int64) : cCC (cGA_s S v) = cCC S := rfl
theorem gs_cCC_LN (S : CS) (v : Nat → Int32) : cCC (cLN_s S v) = cCC S := rfl
theorem gs_cCC_LVa (S : CS) (v : Nat) : cCC (cLVa_s S v) = cCC S := rfl
theorem gs_cCC_LVn (S : CS) (v : Nat) : cCC (cLVn_s S v) = cCC S := rfl
theorem gs_cCC_LV (S : CS) (v : Nat → Int32) : cCC (cLV_s S v) = cCC S := rfl
theorem gs_cCC_FNa (S : CS) (v : Nat) : cCC (cFNa_s S v) = cCC S := rfl
theorem gs_cCC_FNn (S : CS) (v : Nat) : cCC (cFNn_s S v) = cCC S := rfl
theorem gs_cCC_FN (S : CS) (v : Nat → Int32) : cCC (cFN_s S v) = cCC S := rfl
theorem gs_cSE_OC (S : CS) (v : Int32) : cSE (cOC_s S v) = cSE S := rfl
theorem gs_cSE_NC (S : CS) (v : Int32) : cSE (cNC_s S v) = cSE S := rfl
theorem gs_cSE_IC (S : CS) (v : Int32) : cSE (cIC_s S v) = cSE S := rfl
theorem gs_cSE_CC (S : CS) (v : Int32) : cSE (cCC_s S v) = cSE S := rfl
theorem gs_cSE_SE (S : CS) (v : Int32) : cSE (cSE_s S v) = v := rfl
theorem gs_cSE_OL (S : CS) (v : Nat → Int32) : cSE (cOL_s S v) = cSE S := rfl
theorem gs_cSE_IN (S : CS) (v : Nat → Int32) : cSE (cIN_s S v) = cSE S := rfl
theorem gs_cSE_LE (S : CS) (v : Nat → Int32) : cSE (cLE_s S v) = cSE S := rfl
theorem gs_cSE_RI (S : CS) (v : Nat → Int32) : cSE (cRI_s S v) = cSE S := rfl
theorem gs_cSE_IT (S : CS) (v : Nat → Int32) : cSE (cIT_s S v) = cSE S := rfl
theorem gs_cSE_ST (S : CS) (v : Nat → Int32) : cSE (cST_s S v) = cSE S := rfl
theorem gs_cSE_TB (S : CS) (v : Nat → Int32) : cSE (cTB_s S v) = cSE S := rfl
theorem gs_cSE_PI (S : CS) (v : Nat → Int32) : cSE (cPI_s S v) = cSE S := rfl
theorem gs_cSE_TR (S : CS) (v : Nat → Int32) : cSE (cTR_s S v) = cSE S := rfl
theorem gs_cSE_AR (S : CS) (v : Nat → Int32) : cSE (cAR_s S v) = cSE S := rfl
theorem gs_cSE_DE (S : CS) (v : Nat → Int32) : cSE (cDE_s S v) = cSE S := rfl
theorem gs_cSE_AG (S : CS) (v : Nat → Int32) : cSE (cAG_s S v) = cSE S := rfl
theorem gs_cSE_GA (S : CS) (v : Nat → Int64) : cSE (cGA_s S v) = cSE S := rfl
theorem gs_cSE_LN (S : CS) (v : Nat → Int32) : cSE (cLN_s S v) = cSE S := rfl
theorem gs_cSE_LVa (S : CS) (v : Nat) : cSE (cLVa_s S v) = cSE S := rfl
theorem gs_cSE_LVn (S : CS) (v : Nat) : cSE (cLVn_s S v) = cSE S := rfl
theorem gs_cSE_LV (S : CS) (v : Nat → Int32) : cSE (cLV_s S v) = cSE S := rfl
theorem gs_cSE_FNa (S : CS) (v : Nat) : cSE (cFNa_s S v) = cSE S := rfl
theorem gs_cSE_FNn (S : CS) (v : Nat) : cSE (cFNn_s S v) = cSE S := rfl
theorem gs_cSE_FN (S : CS) (v : Nat → Int32) : cSE (cFN_s S v) = cSE S := rfl
theorem gs_cOL_OC (S : CS) (v : Int32) : cOL (cOC_s S v) = cOL S := rfl
theorem gs_cOL_NC (S : CS) (v : Int32) : cOL (cNC_s S v) = cOL S := rfl
theorem gs_cOL_IC (S : CS) (v : Int32) : cOL (cIC_s S v) = cOL S := rfl
theorem gs_cOL_CC (S : CS) (v : Int32) : cOL (cCC_s S v) = cOL S := rfl
theorem gs_cOL_SE (S : CS) (v : Int32) : cOL (cSE_s S v) = cOL S := rfl
theorem gs_cOL_OL (S : CS) (v : Nat → Int32) : cOL (cOL_s S v) = v := rfl
theorem gs_cOL_IN (S : CS) (v : Nat → Int32) : cOL (cIN_s S v) = cOL S := rfl
theorem gs_cOL_LE (S : CS) (v : Nat → Int32) : cOL (cLE_s S v) = cOL S := rfl
theorem gs_cOL_RI (S : CS) (v : Nat → Int32) : cOL (cRI_s S v) = cOL S := rfl
theorem gs_cOL_IT (S : CS) (v : Nat → Int32) : cOL (cIT_s S v) = cOL S := rfl
theorem gs_cOL_ST (S : CS) (v : Nat → Int32) : cOL (cST_s S v) = cOL S := rfl
theorem gs_cOL_TB (S : CS) (v : Nat → Int32) : cOL (cTB_s S v) = cOL S := rfl
theorem gs_cOL_PI (S : CS) (v : Nat → Int32) : cOL (cPI_s S v) = cOL S := rfl
theorem gs_cOL_TR (S : CS) (v : Nat → Int32) : cOL (cTR_s S v) = cOL S := rfl
theorem gs_cOL_AR (S : CS) (v : Nat → Int32) : cOL (cAR_s S v) = cOL S := rfl
theorem gs_cOL_DE (S : CS) (v : Nat → Int32) : cOL (cDE_s S v) = cOL S := rfl
theorem gs_cOL_AG (S : CS) (v : Nat → Int32) : cOL (cAG_s S v) = cOL S := rfl
theorem gs_cOL_GA (S : CS) (v : Nat → Int64) : cOL (cGA_s S v) = cOL S := rfl
theorem gs_cOL_LN (S : CS) (v : Nat → Int32) : cOL (cLN_s S v) = cOL S := rfl
theorem gs_cOL_LVa (S : CS) (v : Nat) : cOL (cLVa_s S v) = cOL S := rfl
theorem gs_cOL_LVn (S : CS) (v : Nat) : cOL (cLVn_s S v) = cOL S := rfl
theorem gs_cOL_LV (S : CS) (v : Nat → Int32) : cOL (cLV_s S v) = cOL S := rfl
theorem gs_cOL_FNa (S : CS) (v : Nat) : cOL (cFNa_s S v) = cOL S := rfl
theorem gs_cOL_FNn (S : CS) (v : Nat) : cOL (cFNn_s S v) = cOL S := rfl
theorem gs_cOL_FN (S : CS) (v : Nat → Int32) : cOL (cFN_s S v) = cOL S := rfl
theorem gs_cIN_OC (S : CS) (v : Int32) : cIN (cOC_s S v) = cIN S := rfl
theorem gs_cIN_NC (S : CS) (v : Int32) : cIN (cNC_s S v) = cIN S := rfl
theorem gs_cIN_IC (S : CS) (v : Int32) : cIN (cIC_s S v) = cIN S := rfl
theorem gs_cIN_CC (S : CS) (v : Int32) : cIN (cCC_s S v) = cIN S := rfl
theorem gs_cIN_SE (S : CS) (v : Int32) : cIN (cSE_s S v) = cIN S := rfl
theorem gs_cIN_OL (S : CS) (v : Nat → Int32) : cIN (cOL_s S v) = cIN S := rfl
theorem gs_cIN_IN (S : CS) (v : Nat → Int32) : cIN (cIN_s S v) = v := rfl
theorem gs_cIN_LE (S : CS) (v : Nat → Int32) : cIN (cLE_s S v) = cIN S := rfl
theorem gs_cIN_RI (S : CS) (v : Nat → Int32) : cIN (cRI_s S v) = cIN S := rfl
theorem gs_cIN_IT (S : CS) (v : Nat → Int32) : cIN (cIT_s S v) = cIN S := rfl
theorem gs_cIN_ST (S : CS) (v : Nat → Int32) : cIN (cST_s S v) = cIN S := rfl
theorem gs_cIN_TB (S : CS) (v : Nat → Int32) : cIN (cTB_s S v) = cIN S := rfl
theorem gs_cIN_PI (S : CS) (v : Nat → Int32) : cIN (cPI_s S v) = cIN S := rfl
theorem gs_cIN_TR (S : CS) (v : Nat → Int32) : cIN (cTR_s S v) = cIN S := rfl
theorem gs_cIN_AR (S : CS) (v : Nat → Int32) : cIN (cAR_s S v) = cIN S := rfl
theorem gs_cIN_DE (S : CS) (v : Nat → Int32) : cIN (cDE_s S v) = cIN S := rfl
theorem gs_cIN_AG (S : CS) (v : Nat → Int32) : cIN (cAG_s S v) = cIN S := rfl
theorem gs_cIN_GA (S : CS) (v : Nat → Int64) : cIN (cGA_s S v) = cIN S := rfl
theorem gs_cIN_LN (S : CS) (v : Nat → Int32) : cIN (cLN_s S v) = cIN S := rfl
theorem gs_cIN_LVa (S : CS) (v : Nat) : cIN (cLVa_s S v) = cIN S := rfl
theorem gs_cIN_LVn (S : CS) (v : Nat) : cIN (cLVn_s S v) = cIN S := rfl
theorem gs_cIN_LV (S : CS) (v : Nat → Int32) : cIN (cLV_s S v) = cIN S := rfl
theorem gs_cIN_FNa (S : CS) (v : Nat) : cIN (cFNa_s S v) = cIN S := rfl
theorem gs_cIN_FNn (S : CS) (v : Nat) : cIN (cFNn_s S v) = cIN S := rfl
theorem gs_cIN_FN (S : CS) (v : Nat → Int32) : cIN (cFN_s S v) = cIN S := rfl
theorem gs_cLE_OC (S : CS) (v : Int32) : cLE (cOC_s S v) = cLE S := rfl
theorem gs_cLE_NC (S : CS) (v : Int32) : cLE (cNC_s S v) = cLE S := rfl
theorem gs_cLE_IC (S : CS) (v : Int32) : cLE (cIC_s S v) = cLE S := rfl
theorem gs_cLE_CC (S : CS) (v : Int32) : cLE (cCC_s S v) = cLE S := rfl
theorem gs_cLE_SE (S : CS) (v : Int32) : cLE (cSE_s S v) = cLE S := rfl
theorem gs_cLE_OL (S : CS) (v : Nat → Int32) : cLE (cOL_s S v) = cLE S := rfl
theorem gs_cLE_IN (S : CS) (v : Nat → Int32) : cLE (cIN_s S v) = cLE S := rfl
theorem gs_cLE_LE (S : CS) (v : Nat → Int32) : cLE (cLE_s S v) = v := rfl
theorem gs_cLE_RI (S : CS) (v : Nat → Int32) : cLE (cRI_s S v) = cLE S := rfl
theorem gs_cLE_IT (S : CS) (v : Nat → Int32) : cLE (cIT_s S v) = cLE S := rfl
theorem gs_cLE_ST (S : CS) (v : Nat → Int32) : cLE (cST_s S v) = cLE S := rfl
theorem gs_cLE_TB (S : CS) (v : Nat → Int32) : cLE (cTB_s S v) = cLE S := rfl
theorem gs_cLE_PI (S : CS) (v : Nat → Int32) : cLE (cPI_s S v) = cLE S := rfl
theorem gs_cLE_TR (S : CS) (v : Nat → Int32) : cLE (cTR_s S v) = cLE S := rfl
theorem gs_cLE_AR (S : CS) (v : Nat → Int32) : cLE (cAR_s S v) = cLE S := rfl
theorem gs_cLE_DE (S : CS) (v : Nat → Int32) : cLE (cDE_s S v) = cLE S := rfl
theorem gs_cLE_AG (S : CS) (v : Nat → Int32) : cLE (cAG_s S v) = cLE S := rfl
theorem gs_cLE_GA (S : CS) (v : Nat → Int64) : cLE (cGA_s S v) = cLE S := rfl
theorem gs_cLE_LN (S : CS) (v : Nat → Int32) : cLE (cLN_s S v) = cLE S := rfl
theorem gs_cLE_LVa (S : CS) (v : Nat) : cLE (cLVa_s S v) = cLE S := rfl
theorem gs_cLE_LVn (S : CS) (v : Nat) : cLE (cLVn_s S v) = cLE S := rfl
theorem gs_cLE_LV (S : CS) (v : Nat → Int32) : cLE (cLV_s S v) = cLE S := rfl
theorem gs_cLE_FNa (S : CS) (v : Nat) : cLE (cFNa_s S v) = cLE S := rfl
theorem gs_cLE_FNn (S : CS) (v : Nat) : cLE (cFNn_s S v) = cLE S := rfl
theorem gs_cLE_FN (S : CS) (v : Nat → Int32) : cLE (cFN_s S v) = cLE S := rfl
theorem gs_cRI_OC (S : CS) (v : Int32) : cRI (cOC_s S v) = cRI S := rfl
theorem gs_cRI_NC (S : CS) (v : Int32) : cRI (cNC_s S v) = cRI S := rfl
theorem gs_cRI_IC (S : CS) (v : Int32) : cRI (cIC_s S v) = cRI S := rfl
theorem gs_cRI_CC (S : CS) (v : Int32) : cRI (cCC_s S v) = cRI S := rfl
theorem gs_cRI_SE (S : CS) (v : Int32) : cRI (cSE_s S v) = cRI S := rfl
theorem gs_cRI_OL (S : CS) (v : Nat → Int32) : cRI (cOL_s S v) = cRI S := rfl
theorem gs_cRI_IN (S : CS) (v : Nat → Int32) : cRI (cIN_s S v) = cRI S := rfl
theorem gs_cRI_LE (S : CS) (v : Nat → Int32) : cRI (cLE_s S v) = cRI S := rfl
theorem gs_cRI_RI (S : CS) (v : Nat → Int32) : cRI (cRI_s S v) = v := rfl
theorem gs_cRI_IT (S : CS) (v : Nat → Int32) : cRI (cIT_s S v) = cRI S := rfl
theorem gs_cRI_ST (S : CS) (v : Nat → Int32) : cRI (cST_s S v) = cRI S := rfl
theorem gs_cRI_TB (S : CS) (v : Nat → Int32) : cRI (cTB_s S v) = cRI S := rfl
theorem gs_cRI_PI (S : CS) (v : Nat → Int32) : cRI (cPI_s S v) = cRI S := rfl
theorem gs_cRI_TR (S : CS) (v : Nat → Int32) : cRI (cTR_s S v) = cRI S := rfl
theorem gs_cRI_AR (S : CS) (v : Nat → Int32) : cRI (cAR_s S v) = cRI S := rfl
theorem gs_cRI_DE (S : CS) (v : Nat → Int32) : cRI (cDE_s S v) = cRI S := rfl
theorem gs_cRI_AG (S : CS) (v : Nat → Int32) : cRI (cAG_s S v) = cRI S := rfl
theorem gs_cRI_GA (S : CS) (v : Nat → Int64) : cRI (cGA_s S v) = cRI S := rfl
theorem gs_cRI_LN (S : CS) (v : Nat → Int32) : cRI (cLN_s S v) = cRI S := rfl
theorem gs_cRI_LVa (S : CS) (v : Nat) : cRI (cLVa_s S v) = cRI S := rfl
theorem gs_cRI_LVn (S : CS) (v : Nat) : cRI (cLVn_s S v) = cRI S := rfl
theorem gs_cRI_LV (S : CS) (v : Nat → Int32) : cRI (cLV_s S v) = cRI S := rfl
theorem gs_cRI_FNa (S : CS) (v : Nat) : cRI (cFNa_s S v) = cRI S := rfl
theorem gs_cRI_FNn (S : CS) (v : Nat) : cRI (cFNn_s S v) = cRI S := rfl
theorem gs_cRI_FN (S : CS) (v : Nat → Int32) : cRI (cFN_s S v) = cRI S := rfl
theorem gs_cIT_OC (S : CS) (v : Int32) : cIT (cOC_s S v) = cIT S := rfl
theorem gs_cIT_NC (S : CS) (v : Int32) : cIT (cNC_s S v) = cIT S := rfl
theorem gs_cIT_IC (S : CS) (v : Int32) : cIT (cIC_s S v) = cIT S := rfl
theorem gs_cIT_CC (S : CS) (v : Int32) : cIT (cCC_s S v) = cIT S := rfl
theorem gs_cIT_SE (S : CS) (v : Int32) : cIT (cSE_s S v) = cIT S := rfl
theorem gs_cIT_OL (S : CS) (v : Nat → Int32) : cIT (cOL_s S v) = cIT S := rfl
theorem gs_cIT_IN (S : CS) (v : Nat → Int32) : cIT (cIN_s S v) = cIT S := rfl
theorem gs_cIT_LE (S : CS) (v : Nat → Int32) : cIT (cLE_s S v) = cIT S := rfl
theorem gs_cIT_RI (S : CS) (v : Nat → Int32) : cIT (cRI_s S v) = cIT S := rfl
theorem gs_cIT_IT (S : CS) (v : Nat → Int32) : cIT (cIT_s S v) = v := rfl
theorem gs_cIT_ST (S : CS) (v : Nat → Int32) : cIT (cST_s S v) = cIT S := rfl
theorem gs_cIT_TB (S : CS) (v : Nat → Int32) : cIT (cTB_s S v) = cIT S := rfl
theorem gs_cIT_PI (S : CS) (v : Nat → Int32) : cIT (cPI_s S v) = cIT S := rfl
theorem gs_cIT_TR (S : CS) (v : Nat → Int32) : cIT (cTR_s S v) = cIT S := rfl
theorem gs_cIT_AR (S : CS) (v : Nat → Int32) : cIT (cAR_s S v) = cIT S := rfl
theorem gs_cIT_DE (S : CS) (v : Nat → Int32) : cIT (cDE_s S v) = cIT S := rfl
theorem gs_cIT_AG (S : CS) (v : Nat → Int32) : cIT (cAG_s S v) = cIT S := rfl
theorem gs_cIT_GA (S : CS) (v : Nat → Int64) : cIT (cGA_s S v) = cIT S := rfl
theorem gs_cIT_LN (S : CS) (v : Nat → Int32) : cIT (cLN_s S v) = cIT S := rfl
theorem gs_cIT_LVa (S : CS) (v : Nat) : cIT (cLVa_s S v) = cIT S := rfl
theorem gs_cIT_LVn (S : CS) (v : Nat) : cIT (cLVn_s S v) = cIT S := rfl
theorem gs_cIT_LV (S : CS) (v : Nat → Int32) : cIT (cLV_s S v) = cIT S := rfl
theorem gs_cIT_FNa (S : CS) (v : Nat) : cIT (cFNa_s S v) = cIT S := rfl
theorem gs_cIT_FNn (S : CS) (v : Nat) : cIT (cFNn_s S v) = cIT S := rfl
theorem gs_cIT_FN (S : CS) (v : Nat → Int32) : cIT (cFN_s S v) = cIT S := rfl
theorem gs_cST_OC (S : CS) (v : Int32) : cST (cOC_s S v) = cST S := rfl
theorem gs_cST_NC (S : CS) (v : Int32) : cST (cNC_s S v) = cST S := rfl
theorem gs_cST_IC (S : CS) (v : Int32) : cST (cIC_s S v) = cST S := rfl
theorem gs_cST_CC (S : CS) (v : Int32) : cST (cCC_s S v) = cST S := rfl
theorem gs_cST_SE (S : CS) (v : Int32) : cST (cSE_s S v) = cST S := rfl
theorem gs_cST_OL (S : CS) (v : Nat → Int32) : cST (cOL_s S v) = cST S := rfl
theorem gs_cST_IN (S : CS) (v : Nat → Int32) : cST (cIN_s S v) = cST S := rfl
theorem gs_cST_LE (S : CS) (v : Nat → Int32) : cST (cLE_s S v) = cST S := rfl
theorem gs_cST_RI (S : CS) (v : Nat → Int32) : cST (cRI_s S v) = cST S := rfl
theorem gs_cST_IT (S : CS) (v : Nat → Int32) : cST (cIT_s S v) = cST S := rfl
theorem gs_cST_ST (S : CS) (v : Nat → Int32) : cST (cST_s S v) = v := rfl
theorem gs_cST_TB (S : CS) (v : Nat → Int32) : cST (cTB_s S v) = cST S := rfl
theorem gs_cST_PI (S : CS) (v : Nat → Int32) : cST (cPI_s S v) = cST S := rfl
theorem gs_cST_TR (S : CS) (v : Nat → Int32) : cST (cTR_s S v) = cST S := rfl
theorem gs_cST_AR (S : CS) (v : Nat → Int32) : cST (cAR_s S v) = cST S := rfl
theorem gs_cST_DE (S : CS) (v : Nat → Int32) : cST (cDE_s S v) = cST S := rfl
theorem gs_cST_AG (S : CS) (v : Nat → Int32) : cST (cAG_s S v) = cST S := rfl
theorem gs_cST_GA (S : CS) (v : Nat → Int64) : cST (cGA_s S v) = cST S := rfl
theorem gs_cST_LN (S : CS) (v : Nat → Int32) : cST (cLN_s S v) = cST S := rfl
theorem gs_cST_LVa (S : CS) (v : Nat) : cST (cLVa_s S v) = cST S := rfl
theorem gs_cST_LVn (S : CS) (v : Nat) : cST (cLVn_s S v) = cST S := rfl
theorem gs_cST_LV (S : CS) (v : Nat → Int32) : cST (cLV_s S v) = cST S := rfl
theorem gs_cST_FNa (S : CS) (v : Nat) : cST (cFNa_s S v) = cST S := rfl
theorem gs_cST_FNn (S : CS) (v : Nat) : cST (cFNn_s S v) = cST S := rfl
theorem gs_cST_FN (S : CS) (v : Nat → Int32) : cST (cFN_s S v) = cST S := rfl
theorem gs_cTB_OC (S : CS) (v : Int32) : cTB (cOC_s S v) = cTB S := rfl
theorem gs_cTB_NC (S : CS) (v : Int32) : cTB (cNC_s S v) = cTB S := rfl
theorem gs_cTB_IC (S : CS) (v : Int32) : cTB (cIC_s S v) = cTB S := rfl
theorem gs_cTB_CC (S : CS) (v : Int32) : cTB (cCC_s S v) = cTB S := rfl
theorem gs_cTB_SE (S : CS) (v : Int32) : cTB (cSE_s S v) = cTB S := rfl
theorem gs_cTB_OL (S : CS) (v : Nat → Int32) : cTB (cOL_s S v) = cTB S := rfl
theorem gs_cTB_IN (S : CS) (v : Nat → Int32) : cTB (cIN_s S v) = cTB S := rfl
theorem gs_cTB_LE (S : CS) (v : Nat → Int32) : cTB (cLE_s S v) = cTB S := rfl
theorem gs_cTB_RI (S : CS) (v : Nat → Int32) : cTB (cRI_s S v) = cTB S := rfl
theorem gs_cTB_IT (S : CS) (v : Nat → Int32) : cTB (cIT_s S v) = cTB S := rfl
theorem gs_cTB_ST (S : CS) (v : Nat → Int32) : cTB (cST_s S v) = cTB S := rfl
theorem gs_cTB_TB (S : CS) (v : Nat → Int32) : cTB (cTB_s S v) = v := rfl
theorem gs_cTB_PI (S : CS) (v : Nat → Int32) : cTB (cPI_s S v) = cTB S := rfl
theorem gs_cTB_TR (S : CS) (v : Nat → Int32) : cTB (cTR_s S v) = cTB S := rfl
theorem gs_cTB_AR (S : CS) (v : Nat → Int32) : cTB (cAR_s S v) = cTB S := rfl
theorem gs_cTB_DE (S : CS) (v : Nat → Int32) : cTB (cDE_s S v) = cTB S := rfl
theorem gs_cTB_AG (S : CS) (v : Nat → Int32) : cTB (cAG_s S v) = cTB S := rfl
theorem gs_cTB_GA (S : CS) (v : Nat → Int64) : cTB (cGA_s S v) = cTB S := rfl
theorem gs_cTB_LN (S : CS) (v : Nat → Int32) : cTB (cLN_s S v) = cTB S := rfl
theorem gs_cTB_LVa (S : CS) (v : Nat) : cTB (cLVa_s S v) = cTB S := rfl
theorem gs_cTB_LVn (S : CS) (v : Nat) : cTB (cLVn_s S v) = cTB S := rfl
theorem gs_cTB_LV (S : CS) (v : Nat → Int32) : cTB (cLV_s S v) = cTB S := rfl
theorem gs_cTB_FNa (S : CS) (v : Nat) : cTB (cFNa_s S v) = cTB S := rfl
theorem gs_cTB_FNn (S : CS) (v : Nat) : cTB (cFNn_s S v) = cTB S := rfl
theorem gs_cTB_FN (S : CS) (v : Nat → Int32) : cTB (cFN_s S v) = cTB S := rfl
theorem gs_cPI_OC (S : CS) (v : Int32) : cPI (cOC_s S v) = cPI S := rfl
theorem gs_cPI_NC (S : CS) (v : Int32) : cPI (cNC_s S v) = cPI S := rfl
theorem gs_cPI_IC (S : CS) (v : Int32) : cPI (cIC_s S v) = cPI S := rfl
theorem gs_cPI_CC (S : CS) (v : Int32) : cPI (cCC_s S v) = cPI S := rfl
theorem gs_cPI_SE (S : CS) (v : Int32) : cPI (cSE_s S v) = cPI S := rfl
theorem gs_cPI_OL (S : CS) (v : Nat → Int32) : cPI (cOL_s S v) = cPI S := rfl
theorem gs_cPI_IN (S : CS) (v : Nat → Int32) : cPI (cIN_s S v) = cPI S := rfl
theorem gs_cPI_LE (S : CS) (v : Nat → Int32) : cPI (cLE_s S v) = cPI S := rfl
theorem gs_cPI_RI (S : CS) (v : Nat → Int32) : cPI (cRI_s S v) = cPI S := rfl
theorem gs_cPI_IT (S : CS) (v : Nat → Int32) : cPI (cIT_s S v) = cPI S := rfl
theorem gs_cPI_ST (S : CS) (v : Nat → Int32) : cPI (cST_s S v) = cPI S := rfl
theorem gs_cPI_TB (S : CS) (v : Nat → Int32) : cPI (cTB_s S v) = cPI S := rfl
theorem gs_cPI_PI (S : CS) (v : Nat → Int32) : cPI (cPI_s S v) = v := rfl
theorem gs_cPI_TR (S : CS) (v : Nat → Int32) : cPI (cTR_s S v) = cPI S := rfl
theorem gs_cPI_AR (S : CS) (v : Nat → Int32) : cPI (cAR_s S v) = cPI S := rfl
theorem gs_cPI_DE (S : CS) (v : Nat → Int32) : cPI (cDE_s S v) = cPI S := rfl
theorem gs_cPI_AG (S : CS) (v : Nat → Int32) : cPI (cAG_s S v) = cPI S := rfl
theorem gs_cPI_GA (S : CS) (v : Nat → Int64) : cPI (cGA_s S v) = cPI S := rfl
theorem gs_cPI_LN (S : CS) (v : Nat → Int32) : cPI (cLN_s S v) = cPI S := rfl
theorem gs_cPI_LVa (S : CS) (v : Nat) : cPI (cLVa_s S v) = cPI S := rfl
theorem gs_cPI_LVn (S : CS) (v : Nat) : cPI (cLVn_s S v) = cPI S := rfl
theorem gs_cPI_LV (S : CS) (v : Nat → Int32) : cPI (cLV_s S v) = cPI S := rfl
theorem gs_cPI_FNa (S : CS) (v : Nat) : cPI (cFNa_s S v) = cPI S := rfl
theorem gs_cPI_FNn (S : CS) (v : Nat) : cPI (cFNn_s S v) = cPI S := rfl
theorem gs_cPI_FN (S : CS) (v : Nat → Int32) : cPI (cFN_s S v) = cPI S := rfl
theorem gs_cTR_OC (S : CS) (v : Int32) : cTR (cOC_s S v) = cTR S := rfl
theorem gs_cTR_NC (S : CS) (v : Int32) : cTR (cNC_s S v) = cTR S := rfl
theorem gs_cTR_IC (S : CS) (v : Int32) : cTR (cIC_s S v) = cTR S := rfl
theorem gs_cTR_CC (S : CS) (v : Int32) : cTR (cCC_s S v) = cTR S := rfl
theorem gs_cTR_SE (S : CS) (v : Int32) : cTR (cSE_s S v) = cTR S := rfl
theorem gs_cTR_OL (S : CS) (v : Nat → Int32) : cTR (cOL_s S v) = cTR S := rfl
theorem gs_cTR_IN (S : CS) (v : Nat → Int32) : cTR (cIN_s S v) = cTR S := rfl
theorem gs_cTR_LE (S : CS) (v : Nat → Int32) : cTR (cLE_s S v) = cTR S := rfl
theorem gs_cTR_RI (S : CS) (v : Nat → Int32) : cTR (cRI_s S v) = cTR S := rfl
theorem gs_cTR_IT (S : CS) (v : Nat → Int32) : cTR (cIT_s S v) = cTR S := rfl
theorem gs_cTR_ST (S : CS) (v : Nat → Int32) : cTR (cST_s S v) = cTR S := rfl
theorem gs_cTR_TB (S : CS) (v : Nat → Int32) : cTR (cTB_s S v) = cTR S := rfl
theorem gs_cTR_PI (S : CS) (v : Nat → Int32) : cTR (cPI_s S v) = cTR S := rfl
theorem gs_cTR_TR (S : CS) (v : Nat → Int32) : cTR (cTR_s S v) = v := rfl
theorem gs_cTR_AR (S : CS) (v : Nat → Int32) : cTR (cAR_s S v) = cTR S := rfl
theorem gs_cTR_DE (S : CS) (v : Nat → Int32) : cTR (cDE_s S v) = cTR S := rfl
theorem gs_cTR_AG (S : CS) (v : Nat → Int32) : cTR (cAG_s S v) = cTR S := rfl
theorem gs_cTR_GA (S : CS) (v : Nat → Int64) : cTR (cGA_s S v) = cTR S := rfl
theorem gs_cTR_LN (S : CS) (v : Nat → Int32) : cTR (cLN_s S v) = cTR S := rfl
theorem gs_cTR_LVa (S : CS) (v : Nat) : cTR (cLVa_s S v) = cTR S := rfl
theorem gs_cTR_LVn (S : CS) (v : Nat) : cTR (cLVn_s S v) = cTR S := rfl
theorem gs_cTR_LV (S : CS) (v : Nat → Int32) : cTR (cLV_s S v) = cTR S := rfl
theorem gs_cTR_FNa (S : CS) (v : Nat) : cTR (cFNa_s S v) = cTR S := rfl
theorem gs_cTR_FNn (S : CS) (v : Nat) : cTR (cFNn_s S v) = cTR S := rfl
theorem gs_cTR_FN (S : CS) (v : Nat → Int32) : cTR (cFN_s S v) = cTR S := rfl
theorem gs_cAR_OC (S : CS) (v : Int32) : cAR (cOC_s S v) = cAR S := rfl
theorem gs_cAR_NC (S : CS) (v : Int32) : cAR (cNC_s S v) = cAR S := rfl
theorem gs_cAR_IC (S : CS) (v : Int32) : cAR (cIC_s S v) = cAR S := rfl
theorem gs_cAR_CC (S : CS) (v : Int32) : cAR (cCC_s S v) = cAR S := rfl
theorem gs_cAR_SE (S : CS) (v : Int32) : cAR (cSE_s S v) = cAR S := rfl
theorem gs_cAR_OL (S : CS) (v : Nat → Int32) : cAR (cOL_s S v) = cAR S := rfl
theorem gs_cAR_IN (S : CS) (v : Nat → Int32) : cAR (cIN_s S v) = cAR S := rfl
theorem gs_cAR_LE (S : CS) (v : Nat → Int32) : cAR (cLE_s S v) = cAR S := rfl
theorem gs_cAR_RI (S : CS) (v : Nat → Int32) : cAR (cRI_s S v) = cAR S := rfl
theorem gs_cAR_IT (S : CS) (v : Nat → Int32) : cAR (cIT_s S v) = cAR S := rfl
theorem gs_cAR_ST (S : CS) (v : Nat → Int32) : cAR (cST_s S v) = cAR S := rfl
theorem gs_cAR_TB (S : CS) (v : Nat → Int32) : cAR (cTB_s S v) = cAR S := rfl
theorem gs_cAR_PI (S : CS) (v : Nat → Int32) : cAR (cPI_s S v) = cAR S := rfl
theorem gs_cAR_TR (S : CS) (v : Nat → Int32) : cAR (cTR_s S v) = cAR S := rfl
theorem gs_cAR_AR (S : CS) (v : Nat → Int32) : cAR (cAR_s S v) = v := rfl
theorem gs_cAR_DE (S : CS) (v : Nat → Int32) : cAR (cDE_s S v) = cAR S := rfl
theorem gs_cAR_AG (S : CS) (v : Nat → Int32) : cAR (cAG_s S v) = cAR S := rfl
theorem gs_cAR_GA (S : CS) (v : Nat → Int64) : cAR (cGA_s S v) = cAR S := rfl
theorem gs_cAR_LN (S : CS) (v : Nat → Int32) : cAR (cLN_s S v) = cAR S := rfl
theorem gs_cAR_LVa (S : CS) (v : Nat) : cAR (cLVa_s S v) = cAR S := rfl
theorem gs_cAR_LVn (S : CS) (v : Nat) : cAR (cLVn_s S v) = cAR S := rfl
theorem gs_cAR_LV (S : CS) (v : Nat → Int32) : cAR (cLV_s S v) = cAR S := rfl
theorem gs_cAR_FNa (S : CS) (v : Nat) : cAR (cFNa_s S v) = cAR S := rfl
theorem gs_cAR_FNn (S : CS) (v : Nat) : cAR (cFNn_s S v) = cAR S := rfl
theorem gs_cAR_FN (S : CS) (v : Nat → Int32) : cAR (cFN_s S v) = cAR S := rfl
theorem gs_cDE_OC (S : CS) (v : Int32) : cDE (cOC_s S v) = cDE S := rfl
theorem gs_cDE_NC (S : CS) (v : Int32) : cDE (cNC_s S v) = cDE S := rfl
theorem gs_cDE_IC (S : CS) (v : Int32) : cDE (cIC_s S v) = cDE S := rfl
theorem gs_cDE_CC (S : CS) (v : Int32) : cDE (cCC_s S v) = cDE S := rfl
theorem gs_cDE_SE (S : CS) (v : Int32) : cDE (cSE_s S v) = cDE S := rfl
theorem gs_cDE_OL (S : CS) (v : Nat → Int32) : cDE (cOL_s S v) = cDE S := rfl
theorem gs_cDE_IN (S : CS) (v : Nat → Int32) : cDE (cIN_s S v) = cDE S := rfl
theorem gs_cDE_LE (S : CS) (v : Nat → Int32) : cDE (cLE_s S v) = cDE S := rfl
theorem gs_cDE_RI (S : CS) (v : Nat → Int32) : cDE (cRI_s S v) = cDE S := rfl
theorem gs_cDE_IT (S : CS) (v : Nat → Int32) : cDE (cIT_s S v) = cDE S := rfl
theorem gs_cDE_ST (S : CS) (v : Nat → Int32) : cDE (cST_s S v) = cDE S := rfl
theorem gs_cDE_TB (S : CS) (v : Nat → Int32) : cDE (cTB_s S v) = cDE S := rfl
theorem gs_cDE_PI (S : CS) (v : Nat → Int32) : cDE (cPI_s S v) = cDE S := rfl
theorem gs_cDE_TR (S : CS) (v : Nat → Int32) : cDE (cTR_s S v) = cDE S := rfl
theorem gs_cDE_AR (S : CS) (v : Nat → Int32) : cDE (cAR_s S v) = cDE S := rfl
theorem gs_cDE_DE (S : CS) (v : Nat → Int32) : cDE (cDE_s S v) = v := rfl
theorem gs_cDE_AG (S : CS) (v : Nat → Int32) : cDE (cAG_s S v) = cDE S := rfl
theorem gs_cDE_GA (S : CS) (v : Nat → Int64) : cDE (cGA_s S v) = cDE S := rfl
theorem gs_cDE_LN (S : CS) (v : Nat → Int32) : cDE (cLN_s S v) = cDE S := rfl
theorem gs_cDE_LVa (S : CS) (v : Nat) : cDE (cLVa_s S v) = cDE S := rfl
theorem gs_cDE_LVn (S : CS) (v : Nat) : cDE (cLVn_s S v) = cDE S := rfl
theorem gs_cDE_LV (S : CS) (v : Nat → Int32) : cDE (cLV_s S v) = cDE S := rfl
theorem gs_cDE_FNa (S : CS) (v : Nat) : cDE (cFNa_s S v) = cDE S := rfl
theorem gs_cDE_FNn (S : CS) (v : Nat) : cDE (cFNn_s S v) = cDE S := rfl
theorem gs_cDE_FN (S : CS) (v : Nat → Int32) : cDE (cFN_s S v) = cDE S := rfl
theorem gs_cAG_OC (S : CS) (v : Int32) : cAG (cOC_s S v) = cAG S := rfl
theorem gs_cAG_NC (S : CS) (v : Int32) : cAG (cNC_s S v) = cAG S := rfl
theorem gs_cAG_IC (S : CS) (v : Int32) : cAG (cIC_s S v) = cAG S := rfl
theorem gs_cAG_CC (S : CS) (v : Int32) : cAG (cCC_s S v) = cAG S := rfl
theorem gs_cAG_SE (S : CS) (v : Int32) : cAG (cSE_s S v) = cAG S := rfl
theorem gs_cAG_OL (S : CS) (v : Nat → Int32) : cAG (cOL_s S v) = cAG S := rfl
theorem gs_cAG_IN (S : CS) (v : Nat → Int32) : cAG (cIN_s S v) = cAG S := rfl
theorem gs_cAG_LE (S : CS) (v : Nat → Int32) : cAG (cLE_s S v) = cAG S := rfl
theorem gs_cAG_RI (S : CS) (v : Nat → Int32) : cAG (cRI_s S v) = cAG S := rfl
theorem gs_cAG_IT (S : CS) (v : Nat → Int32) : cAG (cIT_s S v) = cAG S := rfl
theorem gs_cAG_ST (S : CS) (v : Nat → Int32) : cAG (cST_s S v) = cAG S := rfl
theorem gs_cAG_TB (S : CS) (v : Nat → Int32) : cAG (cTB_s S v) = cAG S := rfl
theorem gs_cAG_PI (S : CS) (v : Nat → Int32) : cAG (cPI_s S v) = cAG S := rfl
theorem gs_cAG_TR (S : CS) (v : Nat → Int32) : cAG (cTR_s S v) = cAG S := rfl
theorem gs_cAG_AR (S : CS) (v : Nat → Int32) : cAG (cAR_s S v) = cAG S := rfl
theorem gs_cAG_DE (S : CS) (v : Nat → Int32) : cAG (cDE_s S v) = cAG S := rfl
theorem gs_cAG_AG (S : CS) (v : Nat → Int32) : cAG (cAG_s S v) = v := rfl
theorem gs_cAG_GA (S : CS) (v : Nat → Int64) : cAG (cGA_s S v) = cAG S := rfl
theorem gs_cAG_LN (S : CS) (v : Nat → Int32) : cAG (cLN_s S v) = cAG S := rfl
theorem gs_cAG_LVa (S : CS) (v : Nat) : cAG (cLVa_s S v) = cAG S := rfl
theorem gs_cAG_LVn (S : CS) (v : Nat) : cAG (cLVn_s S v) = cAG S := rfl
theorem gs_cAG_LV (S : CS) (v : Nat → Int32) : cAG (cLV_s S v) = cAG S := rfl
theorem gs_cAG_FNa (S : CS) (v : Nat) : cAG (cFNa_s S v) = cAG S := rfl
theorem gs_cAG_FNn (S : CS) (v : Nat) : cAG (cFNn_s S v) = cAG S := rfl
theorem gs_cAG_FN (S : CS) (v : Nat → Int32) : cAG (cFN_s S v) = cAG S := rfl
theorem gs_cGA_OC (S : CS) (v : Int32) : cGA (cOC_s S v) = cGA S := rfl
theorem gs_cGA_NC (S : CS) (v : Int32) : cGA (cNC_s S v) = cGA S := rfl
theorem gs_cGA_IC (S : CS) (v : Int32) : cGA (cIC_s S v) = cGA S := rfl
theorem gs_cGA_CC (S : CS) (v : Int32) : cGA (cCC_s S v) = cGA S := rfl
theorem gs_cGA_SE (S : CS) (v : Int32) : cGA (cSE_s S v) = cGA S := rfl
theorem gs_cGA_OL (S : CS) (v : Nat → Int32) : cGA (cOL_s S v) = cGA S := rfl
theorem gs_cGA_IN (S : CS) (v : Nat → Int32) : cGA (cIN_s S v) = cGA S := rfl
theorem gs_cGA_LE (S : CS) (v : Nat → Int32) : cGA (cLE_s S v) = cGA S := rfl
theorem gs_cGA_RI (S : CS) (v : Nat → Int32) : cGA (cRI_s S v) = cGA S := rfl
theorem gs_cGA_IT (S : CS) (v : Nat → Int32) : cGA (cIT_s S v) = cGA S := rfl
theorem gs_cGA_ST (S : CS) (v : Nat → Int32) : cGA (cST_s S v) = cGA S := rfl
theorem gs_cGA_TB (S : CS) (v : Nat → Int32) : cGA (cTB_s S v) = cGA S := rfl
theorem gs_cGA_PI (S : CS) (v : Nat → Int32) : cGA (cPI_s S v) = cGA S := rfl
theorem gs_cGA_TR (S : CS) (v : Nat → Int32) : cGA (cTR_s S v) = cGA S := rfl
theorem gs_cGA_AR (S : CS) (v : Nat → Int32) : cGA (cAR_s S v) = cGA S := rfl
theorem gs_cGA_DE (S : CS) (v : Nat → Int32) : cGA (cDE_s S v) = cGA S := rfl
theorem gs_cGA_AG (S : CS) (v : Nat → Int32) : cGA (cAG_s S v) = cGA S := rfl
theorem gs_cGA_GA (S : CS) (v : Nat → Int64) : cGA (cGA_s S v) = v := rfl
theorem gs_cGA_LN (S : CS) (v : Nat → Int32) : cGA (cLN_s S v) = cGA S := rfl
theorem gs_cGA_LVa (S : CS) (v : Nat) : cGA (cLVa_s S v) = cGA S := rfl
theorem gs_cGA_LVn (S : CS) (v : Nat) : cGA (cLVn_s S v) = cGA S := rfl
theorem gs_cGA_LV (S : CS) (v : Nat → Int32) : cGA (cLV_s S v) = cGA S := rfl
theorem gs_cGA_FNa (S : CS) (v : Nat) : cGA (cFNa_s S v) = cGA S := rfl
theorem gs_cGA_FNn (S : CS) (v : Nat) : cGA (cFNn_s S v) = cGA S := rfl
theorem gs_cGA_FN (S : CS) (v : Nat → Int32) : cGA (cFN_s S v) = cGA S := rfl
theorem gs_cLN_OC (S : CS) (v : Int32) : cLN (cOC_s S v) = cLN S := rfl
theorem gs_cLN_NC (S : CS) (v : Int32) : cLN (cNC_s S v) = cLN S := rfl
theorem gs_cLN_IC (S : CS) (v : Int32) : cLN (cIC_s S v) = cLN S := rfl
theorem gs_cLN_CC (S : CS) (v : Int32) : cLN (cCC_s S v) = cLN S := rfl
theorem gs_cLN_SE (S : CS) (v : Int32) : cLN (cSE_s S v) = cLN S := rfl
theorem gs_cLN_OL (S : CS) (v : Nat → Int32) : cLN (cOL_s S v) = cLN S := rfl
theorem gs_cLN_IN (S : CS) (v : Nat → Int32) : cLN (cIN_s S v) = cLN S := rfl
theorem gs_cLN_LE (S : CS) (v : Nat → Int32) : cLN (cLE_s S v) = cLN S := rfl
theorem gs_cLN_RI (S : CS) (v : Nat → Int32) : cLN (cRI_s S v) = cLN S := rfl
theorem gs_cLN_IT (S : CS) (v : Nat → Int32) : cLN (cIT_s S v) = cLN S := rfl
theorem gs_cLN_ST (S : CS) (v : Nat → Int32) : cLN (cST_s S v) = cLN S := rfl
theorem gs_cLN_TB (S : CS) (v : Nat → Int32) : cLN (cTB_s S v) = cLN S := rfl
theorem gs_cLN_PI (S : CS) (v : Nat → Int32) : cLN (cPI_s S v) = cLN S := rfl
theorem gs_cLN_TR (S : CS) (v : Nat → Int32) : cLN (cTR_s S v) = cLN S := rfl
theorem gs_cLN_AR (S : CS) (v : Nat → Int32) : cLN (cAR_s S v) = cLN S := rfl
theorem gs_cLN_DE (S : CS) (v : Nat → Int32) : cLN (cDE_s S v) = cLN S := rfl
theorem gs_cLN_AG (S : CS) (v : Nat → Int32) : cLN (cAG_s S v) = cLN S := rfl
theorem gs_cLN_GA (S : CS) (v : Nat → Int64) : cLN (cGA_s S v) = cLN S := rfl
theorem gs_cLN_LN (S : CS) (v : Nat → Int32) : cLN (cLN_s S v) = v := rfl
theorem gs_cLN_LVa (S : CS) (v : Nat) : cLN (cLVa_s S v) = cLN S := rfl
theorem gs_cLN_LVn (S : CS) (v : Nat) : cLN (cLVn_s S v) = cLN S := rfl
theorem gs_cLN_LV (S : CS) (v : Nat → Int32) : cLN (cLV_s S v) = cLN S := rfl
theorem gs_cLN_FNa (S : CS) (v : Nat) : cLN (cFNa_s S v) = cLN S := rfl
theorem gs_cLN_FNn (S : CS) (v : Nat) : cLN (cFNn_s S v) = cLN S := rfl
theorem gs_cLN_FN (S : CS) (v : Nat → Int32) : cLN (cFN_s S v) = cLN S := rfl
theorem gs_cLVa_OC (S : CS) (v : Int32) : cLVa (cOC_s S v) = cLVa S := rfl
theorem gs_cLVa_NC (S : CS) (v : Int32) : cLVa (cNC_s S v) = cLVa S := rfl
theorem gs_cLVa_IC (S : CS) (v : Int32) : cLVa (cIC_s S v) = cLVa S := rfl
theorem gs_cLVa_CC (S : CS) (v : Int32) : cLVa (cCC_s S v) = cLVa S := rfl
theorem gs_cLVa_SE (S : CS) (v : Int32) : cLVa (cSE_s S v) = cLVa S := rfl
theorem gs_cLVa_OL (S : CS) (v : Nat → Int32) : cLVa (cOL_s S v) = cLVa S := rfl
theorem gs_cLVa_IN (S : CS) (v : Nat → Int32) : cLVa (cIN_s S v) = cLVa S := rfl
theorem gs_cLVa_LE (S : CS) (v : Nat → Int32) : cLVa (cLE_s S v) = cLVa S := rfl
theorem gs_cLVa_RI (S : CS) (v : Nat → Int32) : cLVa (cRI_s S v) = cLVa S := rfl
theorem gs_cLVa_IT (S : CS) (v : Nat → Int32) : cLVa (cIT_s S v) = cLVa S := rfl
theorem gs_cLVa_ST (S : CS) (v : Nat → Int32) : cLVa (cST_s S v) = cLVa S := rfl
theorem gs_cLVa_TB (S : CS) (v : Nat → Int32) : cLVa (cTB_s S v) = cLVa S := rfl
theorem gs_cLVa_PI (S : CS) (v : Nat → Int32) : cLVa (cPI_s S v) = cLVa S := rfl
theorem gs_cLVa_TR (S : CS) (v : Nat → Int32) : cLVa (cTR_s S v) = cLVa S := rfl
theorem gs_cLVa_AR (S : CS) (v : Nat → Int32) : cLVa (cAR_s S v) = cLVa S := rfl
theorem gs_cLVa_DE (S : CS) (v : Nat → Int32) : cLVa (cDE_s S v) = cLVa S := rfl
theorem gs_cLVa_AG (S : CS) (v : Nat → Int32) : cLVa (cAG_s S v) = cLVa S := rfl
theorem gs_cLVa_GA (S : CS) (v : Nat → Int64) : cLVa (cGA_s S v) = cLVa S := rfl
theorem gs_cLVa_LN (S : CS) (v : Nat → Int32) : cLVa (cLN_s S v) = cLVa S := rfl
theorem gs_cLVa_LVa (S : CS) (v : Nat) : cLVa (cLVa_s S v) = v := rfl
theorem gs_cLVa_LVn (S : CS) (v : Nat) : cLVa (cLVn_s S v) = cLVa S := rfl
theorem gs_cLVa_LV (S : CS) (v : Nat → Int32) : cLVa (cLV_s S v) = cLVa S := rfl
theorem gs_cLVa_FNa (S : CS) (v : Nat) : cLVa (cFNa_s S v) = cLVa S := rfl
theorem gs_cLVa_FNn (S : CS) (v : Nat) : cLVa (cFNn_s S v) = cLVa S := rfl
theorem gs_cLVa_FN (S : CS) (v : Nat → Int32) : cLVa (cFN_s S v) = cLVa S := rfl
theorem gs_cLVn_OC (S : CS) (v : Int32) : cLVn (cOC_s S v) = cLVn S := rfl
theorem gs_cLVn_NC (S : CS) (v : Int32) : cLVn (cNC_s S v) = cLVn S := rfl
theorem gs_cLVn_IC (S : CS) (v : Int32) : cLVn (cIC_s S v) = cLVn S := rfl
theorem gs_cLVn_CC (S : CS) (v : Int32) : cLVn (cCC_s S v) = cLVn S := rfl
theorem gs_cLVn_SE (S : CS) (v : Int32) : cLVn (cSE_s S v) = cLVn S := rfl
theorem gs_cLVn_OL (S : CS) (v : Nat → Int32) : cLVn (cOL_s S v) = cLVn S := rfl
theorem gs_cLVn_IN (S : CS) (v : Nat → Int32) : cLVn (cIN_s S v) = cLVn S := rfl
theorem gs_cLVn_LE (S : CS) (v : Nat → Int32) : cLVn (cLE_s S v) = cLVn S := rfl
theorem gs_cLVn_RI (S : CS) (v : Nat → Int32) : cLVn (cRI_s S v) = cLVn S := rfl
theorem gs_cLVn_IT (S : CS) (v : Nat → Int32) : cLVn (cIT_s S v) = cLVn S := rfl
theorem gs_cLVn_ST (S : CS) (v : Nat → Int32) : cLVn (cST_s S v) = cLVn S := rfl
theorem gs_cLVn_TB (S : CS) (v : Nat → Int32) : cLVn (cTB_s S v) = cLVn S := rfl
theorem gs_cLVn_PI (S : CS) (v : Nat → Int32) : cLVn (cPI_s S v) = cLVn S := rfl
theorem gs_cLVn_TR (S : CS) (v : Nat → Int32) : cLVn (cTR_s S v) = cLVn S := rfl
theorem gs_cLVn_AR (S : CS) (v : Nat → Int32) : cLVn (cAR_s S v) = cLVn S := rfl
theorem gs_cLVn_DE (S : CS) (v : Nat → Int32) : cLVn (cDE_s S v) = cLVn S := rfl
theorem gs_cLVn_AG (S : CS) (v : Nat → Int32) : cLVn (cAG_s S v) = cLVn S := rfl
theorem gs_cLVn_GA (S : CS) (v : Nat → Int64) : cLVn (cGA_s S v) = cLVn S := rfl
theorem gs_cLVn_LN (S : CS) (v : Nat → Int32) : cLVn (cLN_s S v) = cLVn S := rfl
theorem gs_cLVn_LVa (S : CS) (v : Nat) : cLVn (cLVa_s S v) = cLVn S := rfl
theorem gs_cLVn_LVn (S : CS) (v : Nat) : cLVn (cLVn_s S v) = v := rfl
theorem gs_cLVn_LV (S : CS) (v : Nat → Int32) : cLVn (cLV_s S v) = cLVn S := rfl
theorem gs_cLVn_FNa (S : CS) (v : Nat) : cLVn (cFNa_s S v) = cLVn S := rfl
theorem gs_cLVn_FNn (S : CS) (v : Nat) : cLVn (cFNn_s S v) = cLVn S := rfl
theorem gs_cLVn_FN (S : CS) (v : Nat → Int32) : cLVn (cFN_s S v) = cLVn S := rfl
theorem gs_cLV_OC (S : CS) (v : Int32) : cLV (cOC_s S v) = cLV S := rfl
theorem gs_cLV_NC (S : CS) (v : Int32) : cLV (cNC_s S v) = cLV S := rfl
theorem gs_cLV_IC (S : CS) (v : Int32) : cLV (cIC_s S v) = cLV S := rfl
theorem gs_cLV_CC (S : CS) (v : Int32) : cLV (cCC_s S v) = cLV S := rfl
theorem gs_cLV_SE (S : CS) (v : Int32) : cLV (cSE_s S v) = cLV S := rfl
theorem gs_cLV_OL (S : CS) (v : Nat → Int32) : cLV (cOL_s S v) = cLV S := rfl
theorem gs_cLV_IN (S : CS) (v : Nat → Int32) : cLV (cIN_s S v) = cLV S := rfl
theorem gs_cLV_LE (S : CS) (v : Nat → Int32) : cLV (cLE_s S v) = cLV S := rfl
theorem gs_cLV_RI (S : CS) (v : Nat → Int32) : cLV (cRI_s S v) = cLV S := rfl
theorem gs_cLV_IT (S : CS) (v : Nat → Int32) : cLV (cIT_s S v) = cLV S := rfl
theorem gs_cLV_ST (S : CS) (v : Nat → Int32) : cLV (cST_s S v) = cLV S := rfl
theorem gs_cLV_TB (S : CS) (v : Nat → Int32) : cLV (cTB_s S v) = cLV S := rfl
theorem gs_cLV_PI (S : CS) (v : Nat → Int32) : cLV (cPI_s S v) = cLV S := rfl
theorem gs_cLV_TR (S : CS) (v : Nat → Int32) : cLV (cTR_s S v) = cLV S := rfl
theorem gs_cLV_AR (S : CS) (v : Nat → Int32) : cLV (cAR_s S v) = cLV S := rfl
theorem gs_cLV_DE (S : CS) (v : Nat → Int32) : cLV (cDE_s S v) = cLV S := rfl
theorem gs_cLV_AG (S : CS) (v : Nat → Int32) : cLV (cAG_s S v) = cLV S := rfl
theorem gs_cLV_GA (S : CS) (v : Nat → Int64) : cLV (cGA_s S v) = cLV S := rfl
theorem gs_cLV_LN (S : CS) (v : Nat → Int32) : cLV (cLN_s S v) = cLV S := rfl
theorem gs_cLV_LVa (S : CS) (v : Nat) : cLV (cLVa_s S v) = cLV S := rfl
theorem gs_cLV_LVn (S : CS) (v : Nat) : cLV (cLVn_s S v) = cLV S := rfl
theorem gs_cLV_LV (S : CS) (v : Nat → Int32) : cLV (cLV_s S v) = v := rfl
theorem gs_cLV_FNa (S : CS) (v : Nat) : cLV (cFNa_s S v) = cLV S := rfl
theorem gs_cLV_FNn (S : CS) (v : Nat) : cLV (cFNn_s S v) = cLV S := rfl
theorem gs_cLV_FN (S : CS) (v : Nat → Int32) : cLV (cFN_s S v) = cLV S := rfl
theorem gs_cFNa_OC (S : CS) (v : Int32) : cFNa (cOC_s S v) = cFNa S := rfl
theorem gs_cFNa_NC (S : CS) (v : Int32) : cFNa (cNC_s S v) = cFNa S := rfl
theorem gs_cFNa_IC (S : CS) (v : Int32) : cFNa (cIC_s S v) = cFNa S := rfl
theorem gs_cFNa_CC (S : CS) (v : Int32) : cFNa (cCC_s S v) = cFNa S := rfl
theorem gs_cFNa_SE (S : CS) (v : Int32) : cFNa (cSE_s S v) = cFNa S := rfl
theorem gs_cFNa_OL (S : CS) (v : Nat → Int32) : cFNa (cOL_s S v) = cFNa S := rfl
theorem gs_cFNa_IN (S : CS) (v : Nat → Int32) : cFNa (cIN_s S v) = cFNa S := rfl
theorem gs_cFNa_LE (S : CS) (v : Nat → Int32) : cFNa (cLE_s S v) = cFNa S := rfl
theorem gs_cFNa_RI (S : CS) (v : Nat → Int32) : cFNa (cRI_s S v) = cFNa S := rfl
theorem gs_cFNa_IT (S : CS) (v : Nat → Int32) : cFNa (cIT_s S v) = cFNa S := rfl
theorem gs_cFNa_ST (S : CS) (v : Nat → Int32) : cFNa (cST_s S v) = cFNa S := rfl
theorem gs_cFNa_TB (S : CS) (v : Nat → Int32) : cFNa (cTB_s S v) = cFNa S := rfl
theorem gs_cFNa_PI (S : CS) (v : Nat → Int32) : cFNa (cPI_s S v) = cFNa S := rfl
theorem gs_cFNa_TR (S : CS) (v : Nat → Int32) : cFNa (cTR_s S v) = cFNa S := rfl
theorem gs_cFNa_AR (S : CS) (v : Nat → Int32) : cFNa (cAR_s S v) = cFNa S := rfl
theorem gs_cFNa_DE (S : CS) (v : Nat → Int32) : cFNa (cDE_s S v) = cFNa S := rfl
theorem gs_cFNa_AG (S : CS) (v : Nat → Int32) : cFNa (cAG_s S v) = cFNa S := rfl
theorem gs_cFNa_GA (S : CS) (v : Nat → Int64) : cFNa (cGA_s S v) = cFNa S := rfl
theorem gs_cFNa_LN (S : CS) (v : Nat → Int32) : cFNa (cLN_s S v) = cFNa S := rfl
theorem gs_cFNa_LVa (S : CS) (v : Nat) : cFNa (cLVa_s S v) = cFNa S := rfl
theorem gs_cFNa_LVn (S : CS) (v : Nat) : cFNa (cLVn_s S v) = cFNa S := rfl
theorem gs_cFNa_LV (S : CS) (v : Nat → Int32) : cFNa (cLV_s S v) = cFNa S := rfl
theorem gs_cFNa_FNa (S : CS) (v : Nat) : cFNa (cFNa_s S v) = v := rfl
theorem gs_cFNa_FNn (S : CS) (v : Nat) : cFNa (cFNn_s S v) = cFNa S := rfl
theorem gs_cFNa_FN (S : CS) (v : Nat → Int32) : cFNa (cFN_s S v) = cFNa S := rfl
theorem gs_cFNn_OC (S : CS) (v : Int32) : cFNn (cOC_s S v) = cFNn S := rfl
theorem gs_cFNn_NC (S : CS) (v : Int32) : cFNn (cNC_s S v) = cFNn S := rfl
theorem gs_cFNn_IC (S : CS) (v : Int32) : cFNn (cIC_s S v) = cFNn S := rfl
theorem gs_cFNn_CC (S : CS) (v : Int32) : cFNn (cCC_s S v) = cFNn S := rfl
theorem gs_cFNn_SE (S : CS) (v : Int32) : cFNn (cSE_s S v) = cFNn S := rfl
theorem gs_cFNn_OL (S : CS) (v : Nat → Int32) : cFNn (cOL_s S v) = cFNn S := rfl
theorem gs_cFNn_IN (S : CS) (v : Nat → Int32) : cFNn (cIN_s S v) = cFNn S := rfl
theorem gs_cFNn_LE (S : CS) (v : Nat → Int32) : cFNn (cLE_s S v) = cFNn S := rfl
theorem gs_cFNn_RI (S : CS) (v : Nat → Int32) : cFNn (cRI_s S v) = cFNn S := rfl
theorem gs_cFNn_IT (S : CS) (v : Nat → Int32) : cFNn (cIT_s S v) = cFNn S := rfl
theorem gs_cFNn_ST (S : CS) (v : Nat → Int32) : cFNn (cST_s S v) = cFNn S := rfl
theorem gs_cFNn_TB (S : CS) (v : Nat → Int32) : cFNn (cTB_s S v) = cFNn S := rfl
theorem gs_cFNn_PI (S : CS) (v : Nat → Int32) : cFNn (cPI_s S v) = cFNn S := rfl
theorem gs_cFNn_TR (S : CS) (v : Nat → Int32) : cFNn (cTR_s S v) = cFNn S := rfl
theorem gs_cFNn_AR (S : CS) (v : Nat → Int32) : cFNn (cAR_s S v) = cFNn S := rfl
theorem gs_cFNn_DE (S : CS) (v : Nat → Int32) : cFNn (cDE_s S v) = cFNn S := rfl
theorem gs_cFNn_AG (S : CS) (v : Nat → Int32) : cFNn (cAG_s S v) = cFNn S := rfl
theorem gs_cFNn_GA (S : CS) (v : Nat → Int64) : cFNn (cGA_s S v) = cFNn S := rfl
theorem gs_cFNn_LN (S : CS) (v : Nat → Int32) : cFNn (cLN_s S v) = cFNn S := rfl
theorem gs_cFNn_LVa (S : CS) (v : Nat) : cFNn (cLVa_s S v) = cFNn S := rfl
theorem gs_cFNn_LVn (S : CS) (v : Nat) : cFNn (cLVn_s S v) = cFNn S := rfl
theorem gs_cFNn_LV (S : CS) (v : Nat → Int32) : cFNn (cLV_s S v) = cFNn S := rfl
theorem gs_cFNn_FNa (S : CS) (v : Nat) : cFNn (cFNa_s S v) = cFNn S := rfl
theorem gs_cFNn_FNn (S : CS) (v : Nat) : cFNn (cFNn_s S v) = v := rfl
theorem gs_cFNn_FN (S : CS) (v : Nat → Int32) : cFNn (cFN_s S v) = cFNn S := rfl
theorem gs_cFN_OC (S : CS) (v : Int32) : cFN (cOC_s S v) = cFN S := rfl
theorem gs_cFN_NC (S : CS) (v : Int32) : cFN (cNC_s S v) = cFN S := rfl
theorem gs_cFN_IC (S : CS) (v : Int32) : cFN (cIC_s S v) = cFN S := rfl
theorem gs_cFN_CC (S : CS) (v : Int32) : cFN (cCC_s S v) = cFN S := rfl
theorem gs_cFN_SE (S : CS) (v : Int32) : cFN (cSE_s S v) = cFN S := rfl
theorem gs_cFN_OL (S : CS) (v : Nat → Int32) : cFN (cOL_s S v) = cFN S := rfl
theorem gs_cFN_IN (S : CS) (v : Nat → Int32) : cFN (cIN_s S v) = cFN S := rfl
theorem gs_cFN_LE (S : CS) (v : Nat → Int32) : cFN (cLE_s S v) = cFN S := rfl
theorem gs_cFN_RI (S : CS) (v : Nat → Int32) : cFN (cRI_s S v) = cFN S := rfl
theorem gs_cFN_IT (S : CS) (v : Nat → Int32) : cFN (cIT_s S v) = cFN S := rfl
theorem gs_cFN_ST (S : CS) (v : Nat → Int32) : cFN (cST_s S v) = cFN S := rfl
theorem gs_cFN_TB (S : CS) (v : Nat → Int32) : cFN (cTB_s S v) = cFN S := rfl
theorem gs_cFN_PI (S : CS) (v : Nat → Int32) : cFN (cPI_s S v) = cFN S := rfl
theorem gs_cFN_TR (S : CS) (v : Nat → Int32) : cFN (cTR_s S v) = cFN S := rfl
theorem gs_cFN_AR (S : CS) (v : Nat → Int32) : cFN (cAR_s S v) = cFN S := rfl
theorem gs_cFN_DE (S : CS) (v : Nat → Int32) : cFN (cDE_s S v) = cFN S := rfl
theorem gs_cFN_AG (S : CS) (v : Nat → Int32) : cFN (cAG_s S v) = cFN S := rfl
theorem gs_cFN_GA (S : CS) (v : Nat → Int64) : cFN (cGA_s S v) = cFN S := rfl
theorem gs_cFN_LN (S : CS) (v : Nat → Int32) : cFN (cLN_s S v) = cFN S := rfl
theorem gs_cFN_LVa (S : CS) (v : Nat) : cFN (cLVa_s S v) = cFN S := rfl
theorem gs_cFN_LVn (S : CS) (v : Nat) : cFN (cLVn_s S v) = cFN S := rfl
theorem gs_cFN_LV (S : CS) (v : Nat → Int32) : cFN (cLV_s S v) = cFN S := rfl
theorem gs_cFN_FNa (S : CS) (v : Nat) : cFN (cFNa_s S v) = cFN S := rfl
theorem gs_cFN_FNn (S : CS) (v : Nat) : cFN (cFNn_s S v) = cFN S := rfl
theorem gs_cFN_FN (S : CS) (v : Nat → Int32) : cFN (cFN_s S v) = v := rfl
theorem gs_mTH_TH (S : MS) (v : Int32) : mTH (mTH_s S v) = v := rfl
theorem gs_mTH_ND (S : MS) (v : Int32) : mTH (mND_s S v) = mTH S := rfl
theorem gs_mTH_IP (S : MS) (v : Int32) : mTH (mIP_s S v) = mTH S := rfl
theorem gs_mTH_AN (S : MS) (v : Int32) : mTH (mAN_s S v) = mTH S := rfl
theorem gs_mTH_OU (S : MS) (v : Int32) : mTH (mOU_s S v) = mTH S := rfl
theorem gs_mTH_CE (S : MS) (v : Int32) : mTH (mCE_s S v) = mTH S := rfl
theorem gs_mTH_SL (S : MS) (v : Int32) : mTH (mSL_s S v) = mTH S := rfl
theorem gs_mTH_ON (S : MS) (v : Nat → Int32) : mTH (mON_s S v) = mTH S := rfl
theorem gs_mTH_TW (S : MS) (v : Nat → Int32) : mTH (mTW_s S v) = mTH S := rfl
theorem gs_mTH_IN (S : MS) (v : Nat → Int32) : mTH (mIN_s S v) = mTH S := rfl
theorem gs_mTH_TI (S : MS) (v : Nat → Int32) : mTH (mTI_s S v) = mTH S := rfl
theorem gs_mTH_OL (S : MS) (v : Nat → Int32) : mTH (mOL_s S v) = mTH S := rfl
theorem gs_mTH_PI (S : MS) (v : Nat → Int32) : mTH (mPI_s S v) = mTH S := rfl
theorem gs_mTH_TR (S : MS) (v : Nat → Int32) : mTH (mTR_s S v) = mTH S := rfl
theorem gs_mTH_AR (S : MS) (v : Nat → Int32) : mTH (mAR_s S v) = mTH S := rfl
theorem gs_mTH_DE (S : MS) (v : Nat → Int32) : mTH (mDE_s S v) = mTH S := rfl
theorem gs_mTH_AO (S : MS) (v : Nat → Int32) : mTH (mAO_s S v) = mTH S := rfl
theorem gs_mTH_CC (S : MS) (v : Nat → Int32) : mTH (mCC_s S v) = mTH S := rfl
theorem gs_mTH_CB (S : MS) (v : Nat → Int32) : mTH (mCB_s S v) = mTH S := rfl
theorem gs_mTH_FI (S : MS) (v : Nat → Int32) : mTH (mFI_s S v) = mTH S := rfl
theorem gs_mTH_AV (S : MS) (v : Nat → Int32) : mTH (mAV_s S v) = mTH S := rfl
theorem gs_mTH_GA (S : MS) (v : Nat → Int32) : mTH (mGA_s S v) = mTH S := rfl
theorem gs_mTH_GP (S : MS) (v : Nat → Int32) : mTH (mGP_s S v) = mTH S := rfl
theorem gs_mTH_WA (S : MS) (v : Nat → Int32) : mTH (mWA_s S v) = mTH S := rfl
theorem gs_mTH_VA (S : MS) (v : Nat → Int32) : mTH (mVA_s S v) = mTH S := rfl
theorem gs_mTH_LE (S : MS) (v : Nat → Int32) : mTH (mLE_s S v) = mTH S := rfl
theorem gs_mTH_TD (S : MS) (v : Nat → Int32) : mTH (mTD_s S v) = mTH S := rfl
theorem gs_mND_TH (S : MS) (v : Int32) : mND (mTH_s S v) = mND S := rfl
theorem gs_mND_ND (S : MS) (v : Int32) : mND (mND_s S v) = v := rfl
theorem gs_mND_IP (S : MS) (v : Int32) : mND (mIP_s S v) = mND S := rfl
theorem gs_mND_AN (S : MS) (v : Int32) : mND (mAN_s S v) = mND S := rfl
theorem gs_mND_OU (S : MS) (v : Int32) : mND (mOU_s S v) = mND S := rfl
theorem gs_mND_CE (S : MS) (v : Int32) : mND (mCE_s S v) = mND S := rfl
theorem gs_mND_SL (S : MS) (v : Int32) : mND (mSL_s S v) = mND S := rfl
theorem gs_mND_ON (S : MS) (v : Nat → Int32) : mND (mON_s S v) = mND S := rfl
theorem gs_mND_TW (S : MS) (v : Nat → Int32) : mND (mTW_s S v) = mND S := rfl
theorem gs_mND_IN (S : MS) (v : Nat → Int32) : mND (mIN_s S v) = mND S := rfl
theorem gs_mND_TI (S : MS) (v : Nat → Int32) : mND (mTI_s S v) = mND S := rfl
theorem gs_mND_OL (S : MS) (v : Nat → Int32) : mND (mOL_s S v) = mND S := rfl
theorem gs_mND_PI (S : MS) (v : Nat → Int32) : mND (mPI_s S v) = mND S := rfl
theorem gs_mND_TR (S : MS) (v : Nat → Int32) : mND (mTR_s S v) = mND S := rfl
theorem gs_mND_AR (S : MS) (v : Nat → Int32) : mND (mAR_s S v) = mND S := rfl
theorem gs_mND_DE (S : MS) (v : Nat → Int32) : mND (mDE_s S v) = mND S := rfl
theorem gs_mND_AO (S : MS) (v : Nat → Int32) : mND (mAO_s S v) = mND S := rfl
theorem gs_mND_CC (S : MS) (v : Nat → Int32) : mND (mCC_s S v) = mND S := rfl
theorem gs_mND_CB (S : MS) (v : Nat → Int32) : mND (mCB_s S v) = mND S := rfl
theorem gs_mND_FI (S : MS) (v : Nat → Int32) : mND (mFI_s S v) = mND S := rfl
theorem gs_mND_AV (S : MS) (v : Nat → Int32) : mND (mAV_s S v) = mND S := rfl
theorem gs_mND_GA (S : MS) (v : Nat → Int32) : mND (mGA_s S v) = mND S := rfl
theorem gs_mND_GP (S : MS) (v : Nat → Int32) : mND (mGP_s S v) = mND S := rfl
theorem gs_mND_WA (S : MS) (v : Nat → Int32) : mND (mWA_s S v) = mND S := rfl
theorem gs_mND_VA (S : MS) (v : Nat → Int32) : mND (mVA_s S v) = mND S := rfl
theorem gs_mND_LE (S : MS) (v : Nat → Int32) : mND (mLE_s S v) = mND S := rfl
theorem gs_mND_TD (S : MS) (v : Nat → Int32) : mND (mTD_s S v) = mND S := rfl
theorem gs_mIP_TH (S : MS) (v : Int32) : mIP (mTH_s S v) = mIP S := rfl
theorem gs_mIP_ND (S : MS) (v : Int32) : mIP (mND_s S v) = mIP S := rfl
theorem gs_mIP_IP (S : MS) (v : Int32) : mIP (mIP_s S v) = v := rfl
theorem gs_mIP_AN (S : MS) (v : Int32) : mIP (mAN_s S v) = mIP S := rfl
theorem gs_mIP_OU (S : MS) (v : Int32) : mIP (mOU_s S v) = mIP S := rfl
theorem gs_mIP_CE (S : MS) (v : Int32) : mIP (mCE_s S v) = mIP S := rfl
theorem gs_mIP_SL (S : MS) (v : Int32) : mIP (mSL_s S v) = mIP S := rfl
theorem gs_mIP_ON (S : MS) (v : Nat → Int32) : mIP (mON_s S v) = mIP S := rfl
theorem gs_mIP_TW (S : MS) (v : Nat → Int32) : mIP (mTW_s S v) = mIP S := rfl
theorem gs_mIP_IN (S : MS) (v : Nat → Int32) : mIP (mIN_s S v) = mIP S := rfl
theorem gs_mIP_TI (S : MS) (v : Nat → Int32) : mIP (mTI_s S v) = mIP S := rfl
theorem gs_mIP_OL (S : MS) (v : Nat → Int32) : mIP (mOL_s S v) = mIP S := rfl
theorem gs_mIP_PI (S : MS) (v : Nat → Int32) : mIP (mPI_s S v) = mIP S := rfl
theorem gs_mIP_TR (S : MS) (v : Nat → Int32) : mIP (mTR_s S v) = mIP S := rfl
theorem gs_mIP_AR (S : MS) (v : Nat → Int32) : mIP (mAR_s S v) = mIP S := rfl
theorem gs_mIP_DE (S : MS) (v : Nat → Int32) : mIP (mDE_s S v) = mIP S := rfl
theorem gs_mIP_AO (S : MS) (v : Nat → Int32) : mIP (mAO_s S v) = mIP S := rfl
theorem gs_mIP_CC (S : MS) (v : Nat → Int32) : mIP (mCC_s S v) = mIP S := rfl
theorem gs_mIP_CB (S : MS) (v : Nat → Int32) : mIP (mCB_s S v) = mIP S := rfl
theorem gs_mIP_FI (S : MS) (v : Nat → Int32) : mIP (mFI_s S v) = mIP S := rfl
theorem gs_mIP_AV (S : MS) (v : Nat → Int32) : mIP (mAV_s S v) = mIP S := rfl
theorem gs_mIP_GA (S : MS) (v : Nat → Int32) : mIP (mGA_s S v) = mIP S := rfl
theorem gs_mIP_GP (S : MS) (v : Nat → Int32) : mIP (mGP_s S v) = mIP S := rfl
theorem gs_mIP_WA (S : MS) (v : Nat → Int32) : mIP (mWA_s S v) = mIP S := rfl
theorem gs_mIP_VA (S : MS) (v : Nat → Int32) : mIP (mVA_s S v) = mIP S := rfl
theorem gs_mIP_LE (S : MS) (v : Nat → Int32) : mIP (mLE_s S v) = mIP S := rfl
theorem gs_mIP_TD (S : MS) (v : Nat → Int32) : mIP (mTD_s S v) = mIP S := rfl
theorem gs_mAN_TH (S : MS) (v : Int32) : mAN (mTH_s S v) = mAN S := rfl
theorem gs_mAN_ND (S : MS) (v : Int32) : mAN (mND_s S v) = mAN S := rfl
theorem gs_mAN_IP (S : MS) (v : Int32) : mAN (mIP_s S v) = mAN S := rfl
theorem gs_mAN_AN (S : MS) (v : Int32) : mAN (mAN_s S v) = v := rfl
theorem gs_mAN_OU (S : MS) (v : Int32) : mAN (mOU_s S v) = mAN S := rfl
theorem gs_mAN_CE (S : MS) (v : Int32) : mAN (mCE_s S v) = mAN S := rfl
theorem gs_mAN_SL (S : MS) (v : Int32) : mAN (mSL_s S v) = mAN S := rfl
theorem gs_mAN_ON (S : MS) (v : Nat → Int32) : mAN (mON_s S v) = mAN S := rfl
theorem gs_mAN_TW (S : MS) (v : Nat → Int32) : mAN (mTW_s S v) = mAN S := rfl
theorem gs_mAN_IN (S : MS) (v : Nat → Int32) : mAN (mIN_s S v) = mAN S := rfl
theorem gs_mAN_TI (S : MS) (v : Nat → Int32) : mAN (mTI_s S v) = mAN S := rfl
theorem gs_mAN_OL (S : MS) (v : Nat → Int32) : mAN (mOL_s S v) = mAN S := rfl
theorem gs_mAN_PI (S : MS) (v : Nat → Int32) : mAN (mPI_s S v) = mAN S := rfl
theorem gs_mAN_TR (S : MS) (v : Nat → Int32) : mAN (mTR_s S v) = mAN S := rfl
theorem gs_mAN_AR (S : MS) (v : Nat → Int32) : mAN (mAR_s S v) = mAN S := rfl
theorem gs_mAN_DE (S : MS) (v : Nat → Int32) : mAN (mDE_s S v) = mAN S := rfl
theorem gs_mAN_AO (S : MS) (v : Nat → Int32) : mAN (mAO_s S v) = mAN S := rfl
theorem gs_mAN_CC (S : MS) (v : Nat → Int32) : mAN (mCC_s S v) = mAN S := rfl
theorem gs_mAN_CB (S : MS) (v : Nat → Int32) : mAN (mCB_s S v) = mAN S := rfl
theorem gs_mAN_FI (S : MS) (v : Nat → Int32) : mAN (mFI_s S v) = mAN S := rfl
theorem gs_mAN_AV (S : MS) (v : Nat → Int32) : mAN (mAV_s S v) = mAN S := rfl
theorem gs_mAN_GA (S : MS) (v : Nat → Int32) : mAN (mGA_s S v) = mAN S := rfl
theorem gs_mAN_GP (S : MS) (v : Nat → Int32) : mAN (mGP_s S v) = mAN S := rfl
theorem gs_mAN_WA (S : MS) (v : Nat → Int32) : mAN (mWA_s S v) = mAN S := rfl
theorem gs_mAN_VA (S : MS) (v : Nat → Int32) : mAN (mVA_s S v) = mAN S := rfl
theorem gs_mAN_LE (S : MS) (v : Nat → Int32) : mAN (mLE_s S v) = mAN S := rfl
theorem gs_mAN_TD (S : MS) (v : Nat → Int32) : mAN (mTD_s S v) = mAN S := rfl
theorem gs_mOU_TH (S : MS) (v : Int32) : mOU (mTH_s S v) = mOU S := rfl
theorem gs_mOU_ND (S : MS) (v : Int32) : mOU (mND_s S v) = mOU S := rfl
theorem gs_mOU_IP (S : MS) (v : Int32) : mOU (mIP_s S v) = mOU S := rfl
theorem gs_mOU_AN (S : MS) (v : Int32) : mOU (mAN_s S v) = mOU S := rfl
theorem gs_mOU_OU (S : MS) (v : Int32) : mOU (mOU_s S v) = v := rfl
theorem gs_mOU_CE (S : MS) (v : Int32) : mOU (mCE_s S v) = mOU S := rfl
theorem gs_mOU_SL (S : MS) (v : Int32) : mOU (mSL_s S v) = mOU S := rfl
theorem gs_mOU_ON (S : MS) (v : Nat → Int32) : mOU (mON_s S v) = mOU S := rfl
theorem gs_mOU_TW (S : MS) (v : Nat → Int32) : mOU (mTW_s S v) = mOU S := rfl
theorem gs_mOU_IN (S : MS) (v : Nat → Int32) : mOU (mIN_s S v) = mOU S := rfl
theorem gs_mOU_TI (S : MS) (v : Nat → Int32) : mOU (mTI_s S v) = mOU S := rfl
theorem gs_mOU_OL (S : MS) (v : Nat → Int32) : mOU (mOL_s S v) = mOU S := rfl
theorem gs_mOU_PI (S : MS) (v : Nat → Int32) : mOU (mPI_s S v) = mOU S := rfl
theorem gs_mOU_TR (S : MS) (v : Nat → Int32) : mOU (mTR_s S v) = mOU S := rfl
theorem gs_mOU_AR (S : MS) (v : Nat → Int32) : mOU (mAR_s S v) = mOU S := rfl
theorem gs_mOU_DE (S : MS) (v : Nat → Int32) : mOU (mDE_s S v) = mOU S := rfl
theorem gs_mOU_AO (S : MS) (v : Nat → Int32) : mOU (mAO_s S v) = mOU S := rfl
theorem gs_mOU_CC (S : MS) (v : Nat → Int32) : mOU (mCC_s S v) = mOU S := rfl
theorem gs_mOU_CB (S : MS) (v : Nat → Int32) : mOU (mCB_s S v) = mOU S := rfl
theorem gs_mOU_FI (S : MS) (v : Nat → Int32) : mOU (mFI_s S v) = mOU S := rfl
theorem gs_mOU_AV (S : MS) (v : Nat → Int32) : mOU (mAV_s S v) = mOU S := rfl
theorem gs_mOU_GA (S : MS) (v : Nat → Int32) : mOU (mGA_s S v) = mOU S := rfl
theorem gs_mOU_GP (S : MS) (v : Nat → Int32) : mOU (mGP_s S v) = mOU S := rfl
theorem gs_mOU_WA (S : MS) (v : Nat → Int32) : mOU (mWA_s S v) = mOU S := rfl
theorem gs_mOU_VA (S : MS) (v : Nat → Int32) : mOU (mVA_s S v) = mOU S := rfl
theorem gs_mOU_LE (S : MS) (v : Nat → Int32) : mOU (mLE_s S v) = mOU S := rfl
theorem gs_mOU_TD (S : MS) (v : Nat → Int32) : mOU (mTD_s S v) = mOU S := rfl
theorem gs_mCE_TH (S : MS) (v : Int32) : mCE (mTH_s S v) = mCE S := rfl
theorem gs_mCE_ND (S : MS) (v : Int32) : mCE (mND_s S v) = mCE S := rfl
theorem gs_mCE_IP (S : MS) (v : Int32) : mCE (mIP_s S v) = mCE S := rfl
theorem gs_mCE_AN (S : MS) (v : Int32) : mCE (mAN_s S v) = mCE S := rfl
theorem gs_mCE_OU (S : MS) (v : Int32) : mCE (mOU_s S v) = mCE S := rfl
theorem gs_mCE_CE (S : MS) (v : Int32) : mCE (mCE_s S v) = v := rfl
theorem gs_mCE_SL (S : MS) (v : Int32) : mCE (mSL_s S v) = mCE S := rfl
theorem gs_mCE_ON (S : MS) (v : Nat → Int32) : mCE (mON_s S v) = mCE S := rfl
theorem gs_mCE_TW (S : MS) (v : Nat → Int32) : mCE (mTW_s S v) = mCE S := rfl
theorem gs_mCE_IN (S : MS) (v : Nat → Int32) : mCE (mIN_s S v) = mCE S := rfl
theorem gs_mCE_TI (S : MS) (v : Nat → Int32) : mCE (mTI_s S v) = mCE S := rfl
theorem gs_mCE_OL (S : MS) (v : Nat → Int32) : mCE (mOL_s S v) = mCE S := rfl
theorem gs_mCE_PI (S : MS) (v : Nat → Int32) : mCE (mPI_s S v) = mCE S := rfl
theorem gs_mCE_TR (S : MS) (v : Nat → Int32) : mCE (mTR_s S v) = mCE S := rfl
theorem gs_mCE_AR (S : MS) (v : Nat → Int32) : mCE (mAR_s S v) = mCE S := rfl
theorem gs_mCE_DE (S : MS) (v : Nat → Int32) : mCE (mDE_s S v) = mCE S := rfl
theorem gs_mCE_AO (S : MS) (v : Nat → Int32) : mCE (mAO_s S v) = mCE S := rfl
theorem gs_mCE_CC (S : MS) (v : Nat → Int32) : mCE (mCC_s S v) = mCE S := rfl
theorem gs_mCE_CB (S : MS) (v : Nat → Int32) : mCE (mCB_s S v) = mCE S := rfl
theorem gs_mCE_FI (S : MS) (v : Nat → Int32) : mCE (mFI_s S v) = mCE S := rfl
theorem gs_mCE_AV (S : MS) (v : Nat → Int32) : mCE (mAV_s S v) = mCE S := rfl
theorem gs_mCE_GA (S : MS) (v : Nat → Int32) : mCE (mGA_s S v) = mCE S := rfl
theorem gs_mCE_GP (S : MS) (v : Nat → Int32) : mCE (mGP_s S v) = mCE S := rfl
theorem gs_mCE_WA (S : MS) (v : Nat → Int32) : mCE (mWA_s S v) = mCE S := rfl
theorem gs_mCE_VA (S : MS) (v : Nat → Int32) : mCE (mVA_s S v) = mCE S := rfl
theorem gs_mCE_LE (S : MS) (v : Nat → Int32) : mCE (mLE_s S v) = mCE S := rfl
theorem gs_mCE_TD (S : MS) (v : Nat → Int32) : mCE (mTD_s S v) = mCE S := rfl
theorem gs_mSL_TH (S : MS) (v : Int32) : mSL (mTH_s S v) = mSL S := rfl
theorem gs_mSL_ND (S : MS) (v : Int32) : mSL (mND_s S v) = mSL S := rfl
theorem gs_mSL_IP (S : MS) (v : Int32) : mSL (mIP_s S v) = mSL S := rfl
theorem gs_mSL_AN (S : MS) (v : Int32) : mSL (mAN_s S v) = mSL S := rfl
theorem gs_mSL_OU (S : MS) (v : Int32) : mSL (mOU_s S v) = mSL S := rfl
theorem gs_mSL_CE (S : MS) (v : Int32) : mSL (mCE_s S v) = mSL S := rfl
theorem gs_mSL_SL (S : MS) (v : Int32) : mSL (mSL_s S v) = v := rfl
theorem gs_mSL_ON (S : MS) (v : Nat → Int32) : mSL (mON_s S v) = mSL S := rfl
theorem gs_mSL_TW (S : MS) (v : Nat → Int32) : mSL (mTW_s S v) = mSL S := rfl
theorem gs_mSL_IN (S : MS) (v : Nat → Int32) : mSL (mIN_s S v) = mSL S := rfl
theorem gs_mSL_TI (S : MS) (v : Nat → Int32) : mSL (mTI_s S v) = mSL S := rfl
theorem gs_mSL_OL (S : MS) (v : Nat → Int32) : mSL (mOL_s S v) = mSL S := rfl
theorem gs_mSL_PI (S : MS) (v : Nat → Int32) : mSL (mPI_s S v) = mSL S := rfl
theorem gs_mSL_TR (S : MS) (v : Nat → Int32) : mSL (mTR_s S v) = mSL S := rfl
theorem gs_mSL_AR (S : MS) (v : Nat → Int32) : mSL (mAR_s S v) = mSL S := rfl
theorem gs_mSL_DE (S : MS) (v : Nat → Int32) : mSL (mDE_s S v) = mSL S := rfl
theorem gs_mSL_AO (S : MS) (v : Nat → Int32) : mSL (mAO_s S v) = mSL S := rfl
theorem gs_mSL_CC (S : MS) (v : Nat → Int32) : mSL (mCC_s S v) = mSL S := rfl
theorem gs_mSL_CB (S : MS) (v : Nat → Int32) : mSL (mCB_s S v) = mSL S := rfl
theorem gs_mSL_FI (S : MS) (v : Nat → Int32) : mSL (mFI_s S v) = mSL S := rfl
theorem gs_mSL_AV (S : MS) (v : Nat → Int32) : mSL (mAV_s S v) = mSL S := rfl
theorem gs_mSL_GA (S : MS) (v : Nat → Int32) : mSL (mGA_s S v) = mSL S := rfl
theorem gs_mSL_GP (S : MS) (v : Nat → Int32) : mSL (mGP_s S v) = mSL S := rfl
theorem gs_mSL_WA (S : MS) (v : Nat → Int32) : mSL (mWA_s S v) = mSL S := rfl
theorem gs_mSL_VA (S : MS) (v : Nat → Int32) : mSL (mVA_s S v) = mSL S := rfl
theorem gs_mSL_LE (S : MS) (v : Nat → Int32) : mSL (mLE_s S v) = mSL S := rfl
theorem gs_mSL_TD (S : MS) (v : Nat → Int32) : mSL (mTD_s S v) = mSL S := rfl
theorem gs_mON_TH (S : MS) (v : Int32) : mON (mTH_s S v) = mON S := rfl
theorem gs_mON_ND (S : MS) (v : Int32) : mON (mND_s S v) = mON S := rfl
theorem gs_mON_IP (S : MS) (v : Int32) : mON (mIP_s S v) = mON S := rfl
theorem gs_mON_AN (S : MS) (v : Int32) : mON (mAN_s S v) = mON S := rfl
theorem gs_mON_OU (S : MS) (v : Int32) : mON (mOU_s S v) = mON S := rfl
theorem gs_mON_CE (S : MS) (v : Int32) : mON (mCE_s S v) = mON S := rfl
theorem gs_mON_SL (S : MS) (v : Int32) : mON (mSL_s S v) = mON S := rfl
theorem gs_mON_ON (S : MS) (v : Nat → Int32) : mON (mON_s S v) = v := rfl
theorem gs_mON_TW (S : MS) (v : Nat → Int32) : mON (mTW_s S v) = mON S := rfl
theorem gs_mON_IN (S : MS) (v : Nat → Int32) : mON (mIN_s S v) = mON S := rfl
theorem gs_mON_TI (S : MS) (v : Nat → Int32) : mON (mTI_s S v) = mON S := rfl
theorem gs_mON_OL (S : MS) (v : Nat → Int32) : mON (mOL_s S v) = mON S := rfl
theorem gs_mON_PI (S : MS) (v : Nat → Int32) : mON (mPI_s S v) = mON S := rfl
theorem gs_mON_TR (S : MS) (v : Nat → Int32) : mON (mTR_s S v) = mON S := rfl
theorem gs_mON_AR (S : MS) (v : Nat → Int32) : mON (mAR_s S v) = mON S := rfl
theorem gs_mON_DE (S : MS) (v : Nat → Int32) : mON (mDE_s S v) = mON S := rfl
theorem gs_mON_AO (S : MS) (v : Nat → Int32) : mON (mAO_s S v) = mON S := rfl
theorem gs_mON_CC (S : MS) (v : Nat → Int32) : mON (mCC_s S v) = mON S := rfl
theorem gs_mON_CB (S : MS) (v : Nat → Int32) : mON (mCB_s S v) = mON S := rfl
theorem gs_mON_FI (S : MS) (v : Nat → Int32) : mON (mFI_s S v) = mON S := rfl
theorem gs_mON_AV (S : MS) (v : Nat → Int32) : mON (mAV_s S v) = mON S := rfl
theorem gs_mON_GA (S : MS) (v : Nat → Int32) : mON (mGA_s S v) = mON S := rfl
theorem gs_mON_GP (S : MS) (v : Nat → Int32) : mON (mGP_s S v) = mON S := rfl
theorem gs_mON_WA (S : MS) (v : Nat → Int32) : mON (mWA_s S v) = mON S := rfl
theorem gs_mON_VA (S : MS) (v : Nat → Int32) : mON (mVA_s S v) = mON S := rfl
theorem gs_mON_LE (S : MS) (v : Nat → Int32) : mON (mLE_s S v) = mON S := rfl
theorem gs_mON_TD (S : MS) (v : Nat → Int32) : mON (mTD_s S v) = mON S := rfl
theorem gs_mTW_TH (S : MS) (v : Int32) : mTW (mTH_s S v) = mTW S := rfl
theorem gs_mTW_ND (S : MS) (v : Int32) : mTW (mND_s S v) = mTW S := rfl
theorem gs_mTW_IP (S : MS) (v : Int32) : mTW (mIP_s S v) = mTW S := rfl
theorem gs_mTW_AN (S : MS) (v : Int32) : mTW (mAN_s S v) = mTW S := rfl
theorem gs_mTW_OU (S : MS) (v : Int32) : mTW (mOU_s S v) = mTW S := rfl
theorem gs_mTW_CE (S : MS) (v : Int32) : mTW (mCE_s S v) = mTW S := rfl
theorem gs_mTW_SL (S : MS) (v : Int32) : mTW (mSL_s S v) = mTW S := rfl
theorem gs_mTW_ON (S : MS) (v : Nat → Int32) : mTW (mON_s S v) = mTW S := rfl
theorem gs_mTW_TW (S : MS) (v : Nat → Int32) : mTW (mTW_s S v) = v := rfl
theorem gs_mTW_IN (S : MS) (v : Nat → Int32) : mTW (mIN_s S v) = mTW S := rfl
theorem gs_mTW_TI (S : MS) (v : Nat → Int32) : mTW (mTI_s S v) = mTW S := rfl
theorem gs_mTW_OL (S : MS) (v : Nat → Int32) : mTW (mOL_s S v) = mTW S := rfl
theorem gs_mTW_PI (S : MS) (v : Nat → Int32) : mTW (mPI_s S v) = mTW S := rfl
theorem gs_mTW_TR (S : MS) (v : Nat → Int32) : mTW (mTR_s S v) = mTW S := rfl
theorem gs_mTW_AR (S : MS) (v : Nat → Int32) : mTW (mAR_s S v) = mTW S := rfl
theorem gs_mTW_DE (S : MS) (v : Nat → Int32) : mTW (mDE_s S v) = mTW S := rfl
theorem gs_mTW_AO (S : MS) (v : Nat → Int32) : mTW (mAO_s S v) = mTW S := rfl
theorem gs_mTW_CC (S : MS) (v : Nat → Int32) : mTW (mCC_s S v) = mTW S := rfl
theorem gs_mTW_CB (S : MS) (v : Nat → Int32) : mTW (mCB_s S v) = mTW S := rfl
theorem gs_mTW_FI (S : MS) (v : Nat → Int32) : mTW (mFI_s S v) = mTW S := rfl
theorem gs_mTW_AV (S : MS) (v : Nat → Int32) : mTW (mAV_s S v) = mTW S := rfl
theorem gs_mTW_GA (S : MS) (v : Nat → Int32) : mTW (mGA_s S v) = mTW S := rfl
theorem gs_mTW_GP (S : MS) (v : Nat → Int32) : mTW (mGP_s S v) = mTW S := rfl
theorem gs_mTW_WA (S : MS) (v : Nat → Int32) : mTW (mWA_s S v) = mTW S := rfl
theorem gs_mTW_VA (S : MS) (v : Nat → Int32) : mTW (mVA_s S v) = mTW S := rfl
theorem gs_mTW_LE (S : MS) (v : Nat → Int32) : mTW (mLE_s S v) = mTW S := rfl
theorem gs_mTW_TD (S : MS) (v : Nat → Int32) : mTW (mTD_s S v) = mTW S := rfl
theorem gs_mIN_TH (S : MS) (v : Int32) : mIN (mTH_s S v) = mIN S := rfl
theorem gs_mIN_ND (S : MS) (v : Int32) : mIN (mND_s S v) = mIN S := rfl
theorem gs_mIN_IP (S : MS) (v : Int32) : mIN (mIP_s S v) = mIN S := rfl
theorem gs_mIN_AN (S : MS) (v : Int32) : mIN (mAN_s S v) = mIN S := rfl
theorem gs_mIN_OU (S : MS) (v : Int32) : mIN (mOU_s S v) = mIN S := rfl
theorem gs_mIN_CE (S : MS) (v : Int32) : mIN (mCE_s S v) = mIN S := rfl
theorem gs_mIN_SL (S : MS) (v : Int32) : mIN (mSL_s S v) = mIN S := rfl
theorem gs_mIN_ON (S : MS) (v : Nat → Int32) : mIN (mON_s S v) = mIN S := rfl
theorem gs_mIN_TW (S : MS) (v : Nat → Int32) : mIN (mTW_s S v) = mIN S := rfl
theorem gs_mIN_IN (S : MS) (v : Nat → Int32) : mIN (mIN_s S v) = v := rfl
theorem gs_mIN_TI (S : MS) (v : Nat → Int32) : mIN (mTI_s S v) = mIN S := rfl
theorem gs_mIN_OL (S : MS) (v : Nat → Int32) : mIN (mOL_s S v) = mIN S := rfl
theorem gs_mIN_PI (S : MS) (v : Nat → Int32) : mIN (mPI_s S v) = mIN S := rfl
theorem gs_mIN_TR (S : MS) (v : Nat → Int32) : mIN (mTR_s S v) = mIN S := rfl
theorem gs_mIN_AR (S : MS) (v : Nat → Int32) : mIN (mAR_s S v) = mIN S := rfl
theorem gs_mIN_DE (S : MS) (v : Nat → Int32) : mIN (mDE_s S v) = mIN S := rfl
theorem gs_mIN_AO (S : MS) (v : Nat → Int32) : mIN (mAO_s S v) = mIN S := rfl
theorem gs_mIN_CC (S : MS) (v : Nat → Int32) : mIN (mCC_s S v) = mIN S := rfl
theorem gs_mIN_CB (S : MS) (v : Nat → Int32) : mIN (mCB_s S v) = mIN S := rfl
theorem gs_mIN_FI (S : MS) (v : Nat → Int32) : mIN (mFI_s S v) = mIN S := rfl
theorem gs_mIN_AV (S : MS) (v : Nat → Int32) : mIN (mAV_s S v) = mIN S := rfl
theorem gs_mIN_GA (S : MS) (v : Nat → Int32) : mIN (mGA_s S v) = mIN S := rfl
theorem gs_mIN_GP (S : MS) (v : Nat → Int32) : mIN (mGP_s S v) = mIN S := rfl
theorem gs_mIN_WA (S : MS) (v : Nat → Int32) : mIN (mWA_s S v) = mIN S := rfl
theorem gs_mIN_VA (S : MS) (v : Nat → Int32) : mIN (mVA_s S v) = mIN S := rfl
theorem gs_mIN_LE (S : MS) (v : Nat → Int32) : mIN (mLE_s S v) = mIN S := rfl
theorem gs_mIN_TD (S : MS) (v : Nat → Int32) : mIN (mTD_s S v) = mIN S := rfl
theorem gs_mTI_TH (S : MS) (v : Int32) : mTI (mTH_s S v) = mTI S := rfl
theorem gs_mTI_ND (S : MS) (v : Int32) : mTI (mND_s S v) = mTI S := rfl
theorem gs_mTI_IP (S : MS) (v : Int32) : mTI (mIP_s S v) = mTI S := rfl
theorem gs_mTI_AN (S : MS) (v : Int32) : mTI (mAN_s S v) = mTI S := rfl
theorem gs_mTI_OU (S : MS) (v : Int32) : mTI (mOU_s S v) = mTI S := rfl
theorem gs_mTI_CE (S : MS) (v : Int32) : mTI (mCE_s S v) = mTI S := rfl
theorem gs_mTI_SL (S : MS) (v : Int32) : mTI (mSL_s S v) = mTI S := rfl
theorem gs_mTI_ON (S : MS) (v : Nat → Int32) : mTI (mON_s S v) = mTI S := rfl
theorem gs_mTI_TW (S : MS) (v : Nat → Int32) : mTI (mTW_s S v) = mTI S := rfl
theorem gs_mTI_IN (S : MS) (v : Nat → Int32) : mTI (mIN_s S v) = mTI S := rfl
theorem gs_mTI_TI (S : MS) (v : Nat → Int32) : mTI (mTI_s S v) = v := rfl
theorem gs_mTI_OL (S : MS) (v : Nat → Int32) : mTI (mOL_s S v) = mTI S := rfl
theorem gs_mTI_PI (S : MS) (v : Nat → Int32) : mTI (mPI_s S v) = mTI S := rfl
theorem gs_mTI_TR (S : MS) (v : Nat → Int32) : mTI (mTR_s S v) = mTI S := rfl
theorem gs_mTI_AR (S : MS) (v : Nat → Int32) : mTI (mAR_s S v) = mTI S := rfl
theorem gs_mTI_DE (S : MS) (v : Nat → Int32) : mTI (mDE_s S v) = mTI S := rfl
theorem gs_mTI_AO (S : MS) (v : Nat → Int32) : mTI (mAO_s S v) = mTI S := rfl
theorem gs_mTI_CC (S : MS) (v : Nat → Int32) : mTI (mCC_s S v) = mTI S := rfl
theorem gs_mTI_CB (S : MS) (v : Nat → Int32) : mTI (mCB_s S v) = mTI S := rfl
theorem gs_mTI_FI (S : MS) (v : Nat → Int32) : mTI (mFI_s S v) = mTI S := rfl
theorem gs_mTI_AV (S : MS) (v : Nat → Int32) : mTI (mAV_s S v) = mTI S := rfl
theorem gs_mTI_GA (S : MS) (v : Nat → Int32) : mTI (mGA_s S v) = mTI S := rfl
theorem gs_mTI_GP (S : MS) (v : Nat → Int32) : mTI (mGP_s S v) = mTI S := rfl
theorem gs_mTI_WA (S : MS) (v : Nat → Int32) : mTI (mWA_s S v) = mTI S := rfl
theorem gs_mTI_VA (S : MS) (v : Nat → Int32) : mTI (mVA_s S v) = mTI S := rfl
theorem gs_mTI_LE (S : MS) (v : Nat → Int32) : mTI (mLE_s S v) = mTI S := rfl
theorem gs_mTI_TD (S : MS) (v : Nat → Int32) : mTI (mTD_s S v) = mTI S := rfl
theorem gs_mOL_TH (S : MS) (v : Int32) : mOL (mTH_s S v) = mOL S := rfl
theorem gs_mOL_ND (S : MS) (v : Int32) : mOL (mND_s S v) = mOL S := rfl
theorem gs_mOL_IP (S : MS) (v : Int32) : mOL (mIP_s S v) = mOL S := rfl
theorem gs_mOL_AN (S : MS) (v : Int32) : mOL (mAN_s S v) = mOL S := rfl
theorem gs_mOL_OU (S : MS) (v : Int32) : mOL (mOU_s S v) = mOL S := rfl
theorem gs_mOL_CE (S : MS) (v : Int32) : mOL (mCE_s S v) = mOL S := rfl
theorem gs_mOL_SL (S : MS) (v : Int32) : mOL (mSL_s S v) = mOL S := rfl
theorem gs_mOL_ON (S : MS) (v : Nat → Int32) : mOL (mON_s S v) = mOL S := rfl
theorem gs_mOL_TW (S : MS) (v : Nat → Int32) : mOL (mTW_s S v) = mOL S := rfl
theorem gs_mOL_IN (S : MS) (v : Nat → Int32) : mOL (mIN_s S v) = mOL S := rfl
theorem gs_mOL_TI (S : MS) (v : Nat → Int32) : mOL (mTI_s S v) = mOL S := rfl
theorem gs_mOL_OL (S : MS) (v : Nat → Int32) : mOL (mOL_s S v) = v := rfl
theorem gs_mOL_PI (S : MS) (v : Nat → Int32) : mOL (mPI_s S v) = mOL S := rfl
theorem gs_mOL_TR (S : MS) (v : Nat → Int32) : mOL (mTR_s S v) = mOL S := rfl
theorem gs_mOL_AR (S : MS) (v : Nat → Int32) : mOL (mAR_s S v) = mOL S := rfl
theorem gs_mOL_DE (S : MS) (v : Nat → Int32) : mOL (mDE_s S v) = mOL S := rfl
theorem gs_mOL_AO (S : MS) (v : Nat → Int32) : mOL (mAO_s S v) = mOL S := rfl
theorem gs_mOL_CC (S : MS) (v : Nat → Int32) : mOL (mCC_s S v) = mOL S := rfl
theorem gs_mOL_CB (S : MS) (v : Nat → Int32) : mOL (mCB_s S v) = mOL S := rfl
theorem gs_mOL_FI (S : MS) (v : Nat → Int32) : mOL (mFI_s S v) = mOL S := rfl
theorem gs_mOL_AV (S : MS) (v : Nat → Int32) : mOL (mAV_s S v) = mOL S := rfl
theorem gs_mOL_GA (S : MS) (v : Nat → Int32) : mOL (mGA_s S v) = mOL S := rfl
theorem gs_mOL_GP (S : MS) (v : Nat → Int32) : mOL (mGP_s S v) = mOL S := rfl
theorem gs_mOL_WA (S : MS) (v : Nat → Int32) : mOL (mWA_s S v) = mOL S := rfl
theorem gs_mOL_VA (S : MS) (v : Nat → Int32) : mOL (mVA_s S v) = mOL S := rfl
theorem gs_mOL_LE (S : MS) (v : Nat → Int32) : mOL (mLE_s S v) = mOL S := rfl
theorem gs_mOL_TD (S : MS) (v : Nat → Int32) : mOL (mTD_s S v) = mOL S := rfl
theorem gs_mPI_TH (S : MS) (v : Int32) : mPI (mTH_s S v) = mPI S := rfl
theorem gs_mPI_ND (S : MS) (v : Int32) : mPI (mND_s S v) = mPI S := rfl
theorem gs_mPI_IP (S : MS) (v : Int32) : mPI (mIP_s S v) = mPI S := rfl
theorem gs_mPI_AN (S : MS) (v : Int32) : mPI (mAN_s S v) = mPI S := rfl
theorem gs_mPI_OU (S : MS) (v : Int32) : mPI (mOU_s S v) = mPI S := rfl
theorem gs_mPI_CE (S : MS) (v : Int32) : mPI (mCE_s S v) = mPI S := rfl
theorem gs_mPI_SL (S : MS) (v : Int32) : mPI (mSL_s S v) = mPI S := rfl
theorem gs_mPI_ON (S : MS) (v : Nat → Int32) : mPI (mON_s S v) = mPI S := rfl
theorem gs_mPI_TW (S : MS) (v : Nat → Int32) : mPI (mTW_s S v) = mPI S := rfl
theorem gs_mPI_IN (S : MS) (v : Nat → Int32) : mPI (mIN_s S v) = mPI S := rfl
theorem gs_mPI_TI (S : MS) (v : Nat → Int32) : mPI (mTI_s S v) = mPI S := rfl
theorem gs_mPI_OL (S : MS) (v : Nat → Int32) : mPI (mOL_s S v) = mPI S := rfl
theorem gs_mPI_PI (S : MS) (v : Nat → Int32) : mPI (mPI_s S v) = v := rfl
theorem gs_mPI_TR (S : MS) (v : Nat → Int32) : mPI (mTR_s S v) = mPI S := rfl
theorem gs_mPI_AR (S : MS) (v : Nat → Int32) : mPI (mAR_s S v) = mPI S := rfl
theorem gs_mPI_DE (S : MS) (v : Nat → Int32) : mPI (mDE_s S v) = mPI S := rfl
theorem gs_mPI_AO (S : MS) (v : Nat → Int32) : mPI (mAO_s S v) = mPI S := rfl
theorem gs_mPI_CC (S : MS) (v : Nat → Int32) : mPI (mCC_s S v) = mPI S := rfl
theorem gs_mPI_CB (S : MS) (v : Nat → Int32) : mPI (mCB_s S v) = mPI S := rfl
theorem gs_mPI_FI (S : MS) (v : Nat → Int32) : mPI (mFI_s S v) = mPI S := rfl
theorem gs_mPI_AV (S : MS) (v : Nat → Int32) : mPI (mAV_s S v) = mPI S := rfl
theorem gs_mPI_GA (S : MS) (v : Nat → Int32) : mPI (mGA_s S v) = mPI S := rfl
theorem gs_mPI_GP (S : MS) (v : Nat → Int32) : mPI (mGP_s S v) = mPI S := rfl
theorem gs_mPI_WA (S : MS) (v : Nat → Int32) : mPI (mWA_s S v) = mPI S := rfl
theorem gs_mPI_VA (S : MS) (v : Nat → Int32) : mPI (mVA_s S v) = mPI S := rfl
theorem gs_mPI_LE (S : MS) (v : Nat → Int32) : mPI (mLE_s S v) = mPI S := rfl
theorem gs_mPI_TD (S : MS) (v : Nat → Int32) : mPI (mTD_s S v) = mPI S := rfl
theorem gs_mTR_TH (S : MS) (v : Int32) : mTR (mTH_s S v) = mTR S := rfl
theorem gs_mTR_ND (S : MS) (v : Int32) : mTR (mND_s S v) = mTR S := rfl
theorem gs_mTR_IP (S : MS) (v : Int32) : mTR (mIP_s S v) = mTR S := rfl
theorem gs_mTR_AN (S : MS) (v : Int32) : mTR (mAN_s S v) = mTR S := rfl
theorem gs_mTR_OU (S : MS) (v : Int32) : mTR (mOU_s S v) = mTR S := rfl
theorem gs_mTR_CE (S : MS) (v : Int32) : mTR (mCE_s S v) = mTR S := rfl
theorem gs_mTR_SL (S : MS) (v : Int32) : mTR (mSL_s S v) = mTR S := rfl
theorem gs_mTR_ON (S : MS) (v : Nat → Int32) : mTR (mON_s S v) = mTR S := rfl
theorem gs_mTR_TW (S : MS) (v : Nat → Int32) : mTR (mTW_s S v) = mTR S := rfl
theorem gs_mTR_IN (S : MS) (v : Nat → Int32) : mTR (mIN_s S v) = mTR S := rfl
theorem gs_mTR_TI (S : MS) (v : Nat → Int32) : mTR (mTI_s S v) = mTR S := rfl
theorem gs_mTR_OL (S : MS) (v : Nat → Int32) : mTR (mOL_s S v) = mTR S := rfl
theorem gs_mTR_PI (S : MS) (v : Nat → Int32) : mTR (mPI_s S v) = mTR S := rfl
theorem gs_mTR_TR (S : MS) (v : Nat → Int32) : mTR (mTR_s S v) = v := rfl
theorem gs_mTR_AR (S : MS) (v : Nat → Int32) : mTR (mAR_s S v) = mTR S := rfl
theorem gs_mTR_DE (S : MS) (v : Nat → Int32) : mTR (mDE_s S v) = mTR S := rfl
theorem gs_mTR_AO (S : MS) (v : Nat → Int32) : mTR (mAO_s S v) = mTR S := rfl
theorem gs_mTR_CC (S : MS) (v : Nat → Int32) : mTR (mCC_s S v) = mTR S := rfl
theorem gs_mTR_CB (S : MS) (v : Nat → Int32) : mTR (mCB_s S v) = mTR S := rfl
theorem gs_mTR_FI (S : MS) (v : Nat → Int32) : mTR (mFI_s S v) = mTR S := rfl
theorem gs_mTR_AV (S : MS) (v : Nat → Int32) : mTR (mAV_s S v) = mTR S := rfl
theorem gs_mTR_GA (S : MS) (v : Nat → Int32) : mTR (mGA_s S v) = mTR S := rfl
theorem gs_mTR_GP (S : MS) (v : Nat → Int32) : mTR (mGP_s S v) = mTR S := rfl
theorem gs_mTR_WA (S : MS) (v : Nat → Int32) : mTR (mWA_s S v) = mTR S := rfl
theorem gs_mTR_VA (S : MS) (v : Nat → Int32) : mTR (mVA_s S v) = mTR S := rfl
theorem gs_mTR_LE (S : MS) (v : Nat → Int32) : mTR (mLE_s S v) = mTR S := rfl
theorem gs_mTR_TD (S : MS) (v : Nat → Int32) : mTR (mTD_s S v) = mTR S := rfl
theorem gs_mAR_TH (S : MS) (v : Int32) : mAR (mTH_s S v) = mAR S := rfl
theorem gs_mAR_ND (S : MS) (v : Int32) : mAR (mND_s S v) = mAR S := rfl
theorem gs_mAR_IP (S : MS) (v : Int32) : mAR (mIP_s S v) = mAR S := rfl
theorem gs_mAR_AN (S : MS) (v : Int32) : mAR (mAN_s S v) = mAR S := rfl
theorem gs_mAR_OU (S : MS) (v : Int32) : mAR (mOU_s S v) = mAR S := rfl
theorem gs_mAR_CE (S : MS) (v : Int32) : mAR (mCE_s S v) = mAR S := rfl
theorem gs_mAR_SL (S : MS) (v : Int32) : mAR (mSL_s S v) = mAR S := rfl
theorem gs_mAR_ON (S : MS) (v : Nat → Int32) : mAR (mON_s S v) = mAR S := rfl
theorem gs_mAR_TW (S : MS) (v : Nat → Int32) : mAR (mTW_s S v) = mAR S := rfl
theorem gs_mAR_IN (S : MS) (v : Nat → Int32) : mAR (mIN_s S v) = mAR S := rfl
theorem gs_mAR_TI (S : MS) (v : Nat → Int32) : mAR (mTI_s S v) = mAR S := rfl
theorem gs_mAR_OL (S : MS) (v : Nat → Int32) : mAR (mOL_s S v) = mAR S := rfl
theorem gs_mAR_PI (S : MS) (v : Nat → Int32) : mAR (mPI_s S v) = mAR S := rfl
theorem gs_mAR_TR (S : MS) (v : Nat → Int32) : mAR (mTR_s S v) = mAR S := rfl
theorem gs_mAR_AR (S : MS) (v : Nat → Int32) : mAR (mAR_s S v) = v := rfl
theorem gs_mAR_DE (S : MS) (v : Nat → Int32) : mAR (mDE_s S v) = mAR S := rfl
theorem gs_mAR_AO (S : MS) (v : Nat → Int32) : mAR (mAO_s S v) = mAR S := rfl
theorem gs_mAR_CC (S : MS) (v : Nat → Int32) : mAR (mCC_s S v) = mAR S := rfl
theorem gs_mAR_CB (S : MS) (v : Nat → Int32) : mAR (mCB_s S v) = mAR S := rfl
theorem gs_mAR_FI (S : MS) (v : Nat → Int32) : mAR (mFI_s S v) = mAR S := rfl
theorem gs_mAR_AV (S : MS) (v : Nat → Int32) : mAR (mAV_s S v) = mAR S := rfl
theorem gs_mAR_GA (S : MS) (v : Nat → Int32) : mAR (mGA_s S v) = mAR S := rfl
theorem gs_mAR_GP (S : MS) (v : Nat → Int32) : mAR (mGP_s S v) = mAR S := rfl
theorem gs_mAR_WA (S : MS) (v : Nat → Int32) : mAR (mWA_s S v) = mAR S := rfl
theorem gs_mAR_VA (S : MS) (v : Nat → Int32) : mAR (mVA_s S v) = mAR S := rfl
theorem gs_mAR_LE (S : MS) (v : Nat → Int32) : mAR (mLE_s S v) = mAR S := rfl
theorem gs_mAR_TD (S : MS) (v : Nat → Int32) : mAR (mTD_s S v) = mAR S := rfl
theorem gs_mDE_TH (S : MS) (v : Int32) : mDE (mTH_s S v) = mDE S := rfl
theorem gs_mDE_ND (S : MS) (v : Int32) : mDE (mND_s S v) = mDE S := rfl
theorem gs_mDE_IP (S : MS) (v : Int32) : mDE (mIP_s S v) = mDE S := rfl
theorem gs_mDE_AN (S : MS) (v : Int32) : mDE (mAN_s S v) = mDE S := rfl
theorem gs_mDE_OU (S : MS) (v : Int32) : mDE (mOU_s S v) = mDE S := rfl
theorem gs_mDE_CE (S : MS) (v : Int32) : mDE (mCE_s S v) = mDE S := rfl
theorem gs_mDE_SL (S : MS) (v : Int32) : mDE (mSL_s S v) = mDE S := rfl
theorem gs_mDE_ON (S : MS) (v : Nat → Int32) : mDE (mON_s S v) = mDE S := rfl
theorem gs_mDE_TW (S : MS) (v : Nat → Int32) : mDE (mTW_s S v) = mDE S := rfl
theorem gs_mDE_IN (S : MS) (v : Nat → Int32) : mDE (mIN_s S v) = mDE S := rfl
theorem gs_mDE_TI (S : MS) (v : Nat → Int32) : mDE (mTI_s S v) = mDE S := rfl
theorem gs_mDE_OL (S : MS) (v : Nat → Int32) : mDE (mOL_s S v) = mDE S := rfl
theorem gs_mDE_PI (S : MS) (v : Nat → Int32) : mDE (mPI_s S v) = mDE S := rfl
theorem gs_mDE_TR (S : MS) (v : Nat → Int32) : mDE (mTR_s S v) = mDE S := rfl
theorem gs_mDE_AR (S : MS) (v : Nat → Int32) : mDE (mAR_s S v) = mDE S := rfl
theorem gs_mDE_DE (S : MS) (v : Nat → Int32) : mDE (mDE_s S v) = v := rfl
theorem gs_mDE_AO (S : MS) (v : Nat → Int32) : mDE (mAO_s S v) = mDE S := rfl
theorem gs_mDE_CC (S : MS) (v : Nat → Int32) : mDE (mCC_s S v) = mDE S := rfl
theorem gs_mDE_CB (S : MS) (v : Nat → Int32) : mDE (mCB_s S v) = mDE S := rfl
theorem gs_mDE_FI (S : MS) (v : Nat → Int32) : mDE (mFI_s S v) = mDE S := rfl
theorem gs_mDE_AV (S : MS) (v : Nat → Int32) : mDE (mAV_s S v) = mDE S := rfl
theorem gs_mDE_GA (S : MS) (v : Nat → Int32) : mDE (mGA_s S v) = mDE S := rfl
theorem gs_mDE_GP (S : MS) (v : Nat → Int32) : mDE (mGP_s S v) = mDE S := rfl
theorem gs_mDE_WA (S : MS) (v : Nat → Int32) : mDE (mWA_s S v) = mDE S := rfl
theorem gs_mDE_VA (S : MS) (v : Nat → Int32) : mDE (mVA_s S v) = mDE S := rfl
theorem gs_mDE_LE (S : MS) (v : Nat → Int32) : mDE (mLE_s S v) = mDE S := rfl
theorem gs_mDE_TD (S : MS) (v : Nat → Int32) : mDE (mTD_s S v) = mDE S := rfl
theorem gs_mAO_TH (S : MS) (v : Int32) : mAO (mTH_s S v) = mAO S := rfl
theorem gs_mAO_ND (S : MS) (v : Int32) : mAO (mND_s S v) = mAO S := rfl
theorem gs_mAO_IP (S : MS) (v : Int32) : mAO (mIP_s S v) = mAO S := rfl
theorem gs_mAO_AN (S : MS) (v : Int32) : mAO (mAN_s S v) = mAO S := rfl
theorem gs_mAO_OU (S : MS) (v : Int32) : mAO (mOU_s S v) = mAO S := rfl
theorem gs_mAO_CE (S : MS) (v : Int32) : mAO (mCE_s S v) = mAO S := rfl
theorem gs_mAO_SL (S : MS) (v : Int32) : mAO (mSL_s S v) = mAO S := rfl
theorem gs_mAO_ON (S : MS) (v : Nat → Int32) : mAO (mON_s S v) = mAO S := rfl
theorem gs_mAO_TW (S : MS) (v : Nat → Int32) : mAO (mTW_s S v) = mAO S := rfl
theorem gs_mAO_IN (S : MS) (v : Nat → Int32) : mAO (mIN_s S v) = mAO S := rfl
theorem gs_mAO_TI (S : MS) (v : Nat → Int32) : mAO (mTI_s S v) = mAO S := rfl
theorem gs_mAO_OL (S : MS) (v : Nat → Int32) : mAO (mOL_s S v) = mAO S := rfl
theorem gs_mAO_PI (S : MS) (v : Nat → Int32) : mAO (mPI_s S v) = mAO S := rfl
theorem gs_mAO_TR (S : MS) (v : Nat → Int32) : mAO (mTR_s S v) = mAO S := rfl
theorem gs_mAO_AR (S : MS) (v : Nat → Int32) : mAO (mAR_s S v) = mAO S := rfl
theorem gs_mAO_DE (S : MS) (v : Nat → Int32) : mAO (mDE_s S v) = mAO S := rfl
theorem gs_mAO_AO (S : MS) (v : Nat → Int32) : mAO (mAO_s S v) = v := rfl
theorem gs_mAO_CC (S : MS) (v : Nat → Int32) : mAO (mCC_s S v) = mAO S := rfl
theorem gs_mAO_CB (S : MS) (v : Nat → Int32) : mAO (mCB_s S v) = mAO S := rfl
theorem gs_mAO_FI (S : MS) (v : Nat → Int32) : mAO (mFI_s S v) = mAO S := rfl
theorem gs_mAO_AV (S : MS) (v : Nat → Int32) : mAO (mAV_s S v) = mAO S := rfl
theorem gs_mAO_GA (S : MS) (v : Nat → Int32) : mAO (mGA_s S v) = mAO S := rfl
theorem gs_mAO_GP (S : MS) (v : Nat → Int32) : mAO (mGP_s S v) = mAO S := rfl
theorem gs_mAO_WA (S : MS) (v : Nat → Int32) : mAO (mWA_s S v) = mAO S := rfl
theorem gs_mAO_VA (S : MS) (v : Nat → Int32) : mAO (mVA_s S v) = mAO S := rfl
theorem gs_mAO_LE (S : MS) (v : Nat → Int32) : mAO (mLE_s S v) = mAO S := rfl
theorem gs_mAO_TD (S : MS) (v : Nat → Int32) : mAO (mTD_s S v) = mAO S := rfl
theorem gs_mCC_TH (S : MS) (v : Int32) : mCC (mTH_s S v) = mCC S := rfl
theorem gs_mCC_ND (S : MS) (v : Int32) : mCC (mND_s S v) = mCC S := rfl
theorem gs_mCC_IP (S : MS) (v : Int32) : mCC (mIP_s S v) = mCC S := rfl
theorem gs_mCC_AN (S : MS) (v : Int32) : mCC (mAN_s S v) = mCC S := rfl
theorem gs_mCC_OU (S : MS) (v : Int32) : mCC (mOU_s S v) = mCC S := rfl
theorem gs_mCC_CE (S : MS) (v : Int32) : mCC (mCE_s S v) = mCC S := rfl
theorem gs_mCC_SL (S : MS) (v : Int32) : mCC (mSL_s S v) = mCC S := rfl
theorem gs_mCC_ON (S : MS) (v : Nat → Int32) : mCC (mON_s S v) = mCC S := rfl
theorem gs_mCC_TW (S : MS) (v : Nat → Int32) : mCC (mTW_s S v) = mCC S := rfl
theorem gs_mCC_IN (S : MS) (v : Nat → Int32) : mCC (mIN_s S v) = mCC S := rfl
theorem gs_mCC_TI (S : MS) (v : Nat → Int32) : mCC (mTI_s S v) = mCC S := rfl
theorem gs_mCC_OL (S : MS) (v : Nat → Int32) : mCC (mOL_s S v) = mCC S := rfl
theorem gs_mCC_PI (S : MS) (v : Nat → Int32) : mCC (mPI_s S v) = mCC S := rfl
theorem gs_mCC_TR (S : MS) (v : Nat → Int32) : mCC (mTR_s S v) = mCC S := rfl
theorem gs_mCC_AR (S : MS) (v : Nat → Int32) : mCC (mAR_s S v) = mCC S := rfl
theorem gs_mCC_DE (S : MS) (v : Nat → Int32) : mCC (mDE_s S v) = mCC S := rfl
theorem gs_mCC_AO (S : MS) (v : Nat → Int32) : mCC (mAO_s S v) = mCC S := rfl
theorem gs_mCC_CC (S : MS) (v : Nat → Int32) : mCC (mCC_s S v) = v := rfl
theorem gs_mCC_CB (S : MS) (v : Nat → Int32) : mCC (mCB_s S v) = mCC S := rfl
theorem gs_mCC_FI (S : MS) (v : Nat → Int32) : mCC (mFI_s S v) = mCC S := rfl
theorem gs_mCC_AV (S : MS) (v : Nat → Int32) : mCC (mAV_s S v) = mCC S := rfl
theorem gs_mCC_GA (S : MS) (v : Nat → Int32) : mCC (mGA_s S v) = mCC S := rfl
theorem gs_mCC_GP (S : MS) (v : Nat → Int32) : mCC (mGP_s S v) = mCC S := rfl
theorem gs_mCC_WA (S : MS) (v : Nat → Int32) : mCC (mWA_s S v) = mCC S := rfl
theorem gs_mCC_VA (S : MS) (v : Nat → Int32) : mCC (mVA_s S v) = mCC S := rfl
theorem gs_mCC_LE (S : MS) (v : Nat → Int32) : mCC (mLE_s S v) = mCC S := rfl
theorem gs_mCC_TD (S : MS) (v : Nat → Int32) : mCC (mTD_s S v) = mCC S := rfl
theorem gs_mCB_TH (S : MS) (v : Int32) : mCB (mTH_s S v) = mCB S := rfl
theorem gs_mCB_ND (S : MS) (v : Int32) : mCB (mND_s S v) = mCB S := rfl
theorem gs_mCB_IP (S : MS) (v : Int32) : mCB (mIP_s S v) = mCB S := rfl
theorem gs_mCB_AN (S : MS) (v : Int32) : mCB (mAN_s S v) = mCB S := rfl
theorem gs_mCB_OU (S : MS) (v : Int32) : mCB (mOU_s S v) = mCB S := rfl
theorem gs_mCB_CE (S : MS) (v : Int32) : mCB (mCE_s S v) = mCB S := rfl
theorem gs_mCB_SL (S : MS) (v : Int32) : mCB (mSL_s S v) = mCB S := rfl
theorem gs_mCB_ON (S : MS) (v : Nat → Int32) : mCB (mON_s S v) = mCB S := rfl
theorem gs_mCB_TW (S : MS) (v : Nat → Int32) : mCB (mTW_s S v) = mCB S := rfl
theorem gs_mCB_IN (S : MS) (v : Nat → Int32) : mCB (mIN_s S v) = mCB S := rfl
theorem gs_mCB_TI (S : MS) (v : Nat → Int32) : mCB (mTI_s S v) = mCB S := rfl
theorem gs_mCB_OL (S : MS) (v : Nat → Int32) : mCB (mOL_s S v) = mCB S := rfl
theorem gs_mCB_PI (S : MS) (v : Nat → Int32) : mCB (mPI_s S v) = mCB S := rfl
theorem gs_mCB_TR (S : MS) (v : Nat → Int32) : mCB (mTR_s S v) = mCB S := rfl
theorem gs_mCB_AR (S : MS) (v : Nat → Int32) : mCB (mAR_s S v) = mCB S := rfl
theorem gs_mCB_DE (S : MS) (v : Nat → Int32) : mCB (mDE_s S v) = mCB S := rfl
theorem gs_mCB_AO (S : MS) (v : Nat → Int32) : mCB (mAO_s S v) = mCB S := rfl
theorem gs_mCB_CC (S : MS) (v : Nat → Int32) : mCB (mCC_s S v) = mCB S := rfl
theorem gs_mCB_CB (S : MS) (v : Nat → Int32) : mCB (mCB_s S v) = v := rfl
theorem gs_mCB_FI (S : MS) (v : Nat → Int32) : mCB (mFI_s S v) = mCB S := rfl
theorem gs_mCB_AV (S : MS) (v : Nat → Int32) : mCB (mAV_s S v) = mCB S := rfl
theorem gs_mCB_GA (S : MS) (v : Nat → Int32) : mCB (mGA_s S v) = mCB S := rfl
theorem gs_mCB_GP (S : MS) (v : Nat → Int32) : mCB (mGP_s S v) = mCB S := rfl
theorem gs_mCB_WA (S : MS) (v : Nat → Int32) : mCB (mWA_s S v) = mCB S := rfl
theorem gs_mCB_VA (S : MS) (v : Nat → Int32) : mCB (mVA_s S v) = mCB S := rfl
theorem gs_mCB_LE (S : MS) (v : Nat → Int32) : mCB (mLE_s S v) = mCB S := rfl
theorem gs_mCB_TD (S : MS) (v : Nat → Int32) : mCB (mTD_s S v) = mCB S := rfl
theorem gs_mFI_TH (S : MS) (v : Int32) : mFI (mTH_s S v) = mFI S := rfl
theorem gs_mFI_ND (S : MS) (v : Int32) : mFI (mND_s S v) = mFI S := rfl
theorem gs_mFI_IP (S : MS) (v : Int32) : mFI (mIP_s S v) = mFI S := rfl
theorem gs_mFI_AN (S : MS) (v : Int32) : mFI (mAN_s S v) = mFI S := rfl
theorem gs_mFI_OU (S : MS) (v : Int32) : mFI (mOU_s S v) = mFI S := rfl
theorem gs_mFI_CE (S : MS) (v : Int32) : mFI (mCE_s S v) = mFI S := rfl
theorem gs_mFI_SL (S : MS) (v : Int32) : mFI (mSL_s S v) = mFI S := rfl
theorem gs_mFI_ON (S : MS) (v : Nat → Int32) : mFI (mON_s S v) = mFI S := rfl
theorem gs_mFI_TW (S : MS) (v : Nat → Int32) : mFI (mTW_s S v) = mFI S := rfl
theorem gs_mFI_IN (S : MS) (v : Nat → Int32) : mFI (mIN_s S v) = mFI S := rfl
theorem gs_mFI_TI (S : MS) (v : Nat → Int32) : mFI (mTI_s S v) = mFI S := rfl
theorem gs_mFI_OL (S : MS) (v : Nat → Int32) : mFI (mOL_s S v) = mFI S := rfl
theorem gs_mFI_PI (S : MS) (v : Nat → Int32) : mFI (mPI_s S v) = mFI S := rfl
theorem gs_mFI_TR (S : MS) (v : Nat → Int32) : mFI (mTR_s S v) = mFI S := rfl
theorem gs_mFI_AR (S : MS) (v : Nat → Int32) : mFI (mAR_s S v) = mFI S := rfl
theorem gs_mFI_DE (S : MS) (v : Nat → Int32) : mFI (mDE_s S v) = mFI S := rfl
theorem gs_mFI_AO (S : MS) (v : Nat → Int32) : mFI (mAO_s S v) = mFI S := rfl
theorem gs_mFI_CC (S : MS) (v : Nat → Int32) : mFI (mCC_s S v) = mFI S := rfl
theorem gs_mFI_CB (S : MS) (v : Nat → Int32) : mFI (mCB_s S v) = mFI S := rfl
theorem gs_mFI_FI (S : MS) (v : Nat → Int32) : mFI (mFI_s S v) = v := rfl
theorem gs_mFI_AV (S : MS) (v : Nat → Int32) : mFI (mAV_s S v) = mFI S := rfl
theorem gs_mFI_GA (S : MS) (v : Nat → Int32) : mFI (mGA_s S v) = mFI S := rfl
theorem gs_mFI_GP (S : MS) (v : Nat → Int32) : mFI (mGP_s S v) = mFI S := rfl
theorem gs_mFI_WA (S : MS) (v : Nat → Int32) : mFI (mWA_s S v) = mFI S := rfl
theorem gs_mFI_VA (S : MS) (v : Nat → Int32) : mFI (mVA_s S v) = mFI S := rfl
theorem gs_mFI_LE (S : MS) (v : Nat → Int32) : mFI (mLE_s S v) = mFI S := rfl
theorem gs_mFI_TD (S : MS) (v : Nat → Int32) : mFI (mTD_s S v) = mFI S := rfl
theorem gs_mAV_TH (S : MS) (v : Int32) : mAV (mTH_s S v) = mAV S := rfl
theorem gs_mAV_ND (S : MS) (v : Int32) : mAV (mND_s S v) = mAV S := rfl
theorem gs_mAV_IP (S : MS) (v : Int32) : mAV (mIP_s S v) = mAV S := rfl
theorem gs_mAV_AN (S : MS) (v : Int32) : mAV (mAN_s S v) = mAV S := rfl
theorem gs_mAV_OU (S : MS) (v : Int32) : mAV (mOU_s S v) = mAV S := rfl
theorem gs_mAV_CE (S : MS) (v : Int32) : mAV (mCE_s S v) = mAV S := rfl
theorem gs_mAV_SL (S : MS) (v : Int32) : mAV (mSL_s S v) = mAV S := rfl
theorem gs_mAV_ON (S : MS) (v : Nat → Int32) : mAV (mON_s S v) = mAV S := rfl
theorem gs_mAV_TW (S : MS) (v : Nat → Int32) : mAV (mTW_s S v) = mAV S := rfl
theorem gs_mAV_IN (S : MS) (v : Nat → Int32) : mAV (mIN_s S v) = mAV S := rfl
theorem gs_mAV_TI (S : MS) (v : Nat → Int32) : mAV (mTI_s S v) = mAV S := rfl
theorem gs_mAV_OL (S : MS) (v : Nat → Int32) : mAV (mOL_s S v) = mAV S := rfl
theorem gs_mAV_PI (S : MS) (v : Nat → Int32) : mAV (mPI_s S v) = mAV S := rfl
theorem gs_mAV_TR (S : MS) (v : Nat → Int32) : mAV (mTR_s S v) = mAV S := rfl
theorem gs_mAV_AR (S : MS) (v : Nat → Int32) : mAV (mAR_s S v) = mAV S := rfl
theorem gs_mAV_DE (S : MS) (v : Nat → Int32) : mAV (mDE_s S v) = mAV S := rfl
theorem gs_mAV_AO (S : MS) (v : Nat → Int32) : mAV (mAO_s S v) = mAV S := rfl
theorem gs_mAV_CC (S : MS) (v : Nat → Int32) : mAV (mCC_s S v) = mAV S := rfl
theorem gs_mAV_CB (S : MS) (v : Nat → Int32) : mAV (mCB_s S v) = mAV S := rfl
theorem gs_mAV_FI (S : MS) (v : Nat → Int32) : mAV (mFI_s S v) = mAV S := rfl
theorem gs_mAV_AV (S : MS) (v : Nat → Int32) : mAV (mAV_s S v) = v := rfl
theorem gs_mAV_GA (S : MS) (v : Nat → Int32) : mAV (mGA_s S v) = mAV S := rfl
theorem gs_mAV_GP (S : MS) (v : Nat → Int32) : mAV (mGP_s S v) = mAV S := rfl
theorem gs_mAV_WA (S : MS) (v : Nat → Int32) : mAV (mWA_s S v) = mAV S := rfl
theorem gs_mAV_VA (S : MS) (v : Nat → Int32) : mAV (mVA_s S v) = mAV S := rfl
theorem gs_mAV_LE (S : MS) (v : Nat → Int32) : mAV (mLE_s S v) = mAV S := rfl
theorem gs_mAV_TD (S : MS) (v : Nat → Int32) : mAV (mTD_s S v) = mAV S := rfl
theorem gs_mGA_TH (S : MS) (v : Int32) : mGA (mTH_s S v) = mGA S := rfl
theorem gs_mGA_ND (S : MS) (v : Int32) : mGA (mND_s S v) = mGA S := rfl
theorem gs_mGA_IP (S : MS) (v : Int32) : mGA (mIP_s S v) = mGA S := rfl
theorem gs_mGA_AN (S : MS) (v : Int32) : mGA (mAN_s S v) = mGA S := rfl
theorem gs_mGA_OU (S : MS) (v : Int32) : mGA (mOU_s S v) = mGA S := rfl
theorem gs_mGA_CE (S : MS) (v : Int32) : mGA (mCE_s S v) = mGA S := rfl
theorem gs_mGA_SL (S : MS) (v : Int32) : mGA (mSL_s S v) = mGA S := rfl
theorem gs_mGA_ON (S : MS) (v : Nat → Int32) : mGA (mON_s S v) = mGA S := rfl
theorem gs_mGA_TW (S : MS) (v : Nat → Int32) : mGA (mTW_s S v) = mGA S := rfl
theorem gs_mGA_IN (S : MS) (v : Nat → Int32) : mGA (mIN_s S v) = mGA S := rfl
theorem gs_mGA_TI (S : MS) (v : Nat → Int32) : mGA (mTI_s S v) = mGA S := rfl
theorem gs_mGA_OL (S : MS) (v : Nat → Int32) : mGA (mOL_s S v) = mGA S := rfl
theorem gs_mGA_PI (S : MS) (v : Nat → Int32) : mGA (mPI_s S v) = mGA S := rfl
theorem gs_mGA_TR (S : MS) (v : Nat → Int32) : mGA (mTR_s S v) = mGA S := rfl
theorem gs_mGA_AR (S : MS) (v : Nat → Int32) : mGA (mAR_s S v) = mGA S := rfl
theorem gs_mGA_DE (S : MS) (v : Nat → Int32) : mGA (mDE_s S v) = mGA S := rfl
theorem gs_mGA_AO (S : MS) (v : Nat → Int32) : mGA (mAO_s S v) = mGA S := rfl
theorem gs_mGA_CC (S : MS) (v : Nat → Int32) : mGA (mCC_s S v) = mGA S := rfl
theorem gs_mGA_CB (S : MS) (v : Nat → Int32) : mGA (mCB_s S v) = mGA S := rfl
theorem gs_mGA_FI (S : MS) (v : Nat → Int32) : mGA (mFI_s S v) = mGA S := rfl
theorem gs_mGA_AV (S : MS) (v : Nat → Int32) : mGA (mAV_s S v) = mGA S := rfl
theorem gs_mGA_GA (S : MS) (v : Nat → Int32) : mGA (mGA_s S v) = v := rfl
theorem gs_mGA_GP (S : MS) (v : Nat → Int32) : mGA (mGP_s S v) = mGA S := rfl
theorem gs_mGA_WA (S : MS) (v : Nat → Int32) : mGA (mWA_s S v) = mGA S := rfl
theorem gs_mGA_VA (S : MS) (v : Nat → Int32) : mGA (mVA_s S v) = mGA S := rfl
theorem gs_mGA_LE (S : MS) (v : Nat → Int32) : mGA (mLE_s S v) = mGA S := rfl
theorem gs_mGA_TD (S : MS) (v : Nat → Int32) : mGA (mTD_s S v) = mGA S := rfl
theorem gs_mGP_TH (S : MS) (v : Int32) : mGP (mTH_s S v) = mGP S := rfl
theorem gs_mGP_ND (S : MS) (v : Int32) : mGP (mND_s S v) = mGP S := rfl
theorem gs_mGP_IP (S : MS) (v : Int32) : mGP (mIP_s S v) = mGP S := rfl
theorem gs_mGP_AN (S : MS) (v : Int32) : mGP (mAN_s S v) = mGP S := rfl
theorem gs_mGP_OU (S : MS) (v : Int32) : mGP (mOU_s S v) = mGP S := rfl
theorem gs_mGP_CE (S : MS) (v : Int32) : mGP (mCE_s S v) = mGP S := rfl
theorem gs_mGP_SL (S : MS) (v : Int32) : mGP (mSL_s S v) = mGP S := rfl
theorem gs_mGP_ON (S : MS) (v : Nat → Int32) : mGP (mON_s S v) = mGP S := rfl
theorem gs_mGP_TW (S : MS) (v : Nat → Int32) : mGP (mTW_s S v) = mGP S := rfl
theorem gs_mGP_IN (S : MS) (v : Nat → Int32) : mGP (mIN_s S v) = mGP S := rfl
theorem gs_mGP_TI (S : MS) (v : Nat → Int32) : mGP (mTI_s S v) = mGP S := rfl
theorem gs_mGP_OL (S : MS) (v : Nat → Int32) : mGP (mOL_s S v) = mGP S := rfl
theorem gs_mGP_PI (S : MS) (v : Nat → Int32) : mGP (mPI_s S v) = mGP S := rfl
theorem gs_mGP_TR (S : MS) (v : Nat → Int32) : mGP (mTR_s S v) = mGP S := rfl
theorem gs_mGP_AR (S : MS) (v : Nat → Int32) : mGP (mAR_s S v) = mGP S := rfl
theorem gs_mGP_DE (S : MS) (v : Nat → Int32) : mGP (mDE_s S v) = mGP S := rfl
theorem gs_mGP_AO (S : MS) (v : Nat → Int32) : mGP (mAO_s S v) = mGP S := rfl
theorem gs_mGP_CC (S : MS) (v : Nat → Int32) : mGP (mCC_s S v) = mGP S := rfl
theorem gs_mGP_CB (S : MS) (v : Nat → Int32) : mGP (mCB_s S v) = mGP S := rfl
theorem gs_mGP_FI (S : MS) (v : Nat → Int32) : mGP (mFI_s S v) = mGP S := rfl
theorem gs_mGP_AV (S : MS) (v : Nat → Int32) : mGP (mAV_s S v) = mGP S := rfl
theorem gs_mGP_GA (S : MS) (v : Nat → Int32) : mGP (mGA_s S v) = mGP S := rfl
theorem gs_mGP_GP (S : MS) (v : Nat → Int32) : mGP (mGP_s S v) = v := rfl
theorem gs_mGP_WA (S : MS) (v : Nat → Int32) : mGP (mWA_s S v) = mGP S := rfl
theorem gs_mGP_VA (S : MS) (v : Nat → Int32) : mGP (mVA_s S v) = mGP S := rfl
theorem gs_mGP_LE (S : MS) (v : Nat → Int32) : mGP (mLE_s S v) = mGP S := rfl
theorem gs_mGP_TD (S : MS) (v : Nat → Int32) : mGP (mTD_s S v) = mGP S := rfl
theorem gs_mWA_TH (S : MS) (v : Int32) : mWA (mTH_s S v) = mWA S := rfl
theorem gs_mWA_ND (S : MS) (v : Int32) : mWA (mND_s S v) = mWA S := rfl
theorem gs_mWA_IP (S : MS) (v : Int32) : mWA (mIP_s S v) = mWA S := rfl
theorem gs_mWA_AN (S : MS) (v : Int32) : mWA (mAN_s S v) = mWA S := rfl
theorem gs_mWA_OU (S : MS) (v : Int32) : mWA (mOU_s S v) = mWA S := rfl
theorem gs_mWA_CE (S : MS) (v : Int32) : mWA (mCE_s S v) = mWA S := rfl
theorem gs_mWA_SL (S : MS) (v : Int32) : mWA (mSL_s S v) = mWA S := rfl
theorem gs_mWA_ON (S : MS) (v : Nat → Int32) : mWA (mON_s S v) = mWA S := rfl
theorem gs_mWA_TW (S : MS) (v : Nat → Int32) : mWA (mTW_s S v) = mWA S := rfl
theorem gs_mWA_IN (S : MS) (v : Nat → Int32) : mWA (mIN_s S v) = mWA S := rfl
theorem gs_mWA_TI (S : MS) (v : Nat → Int32) : mWA (mTI_s S v) = mWA S := rfl
theorem gs_mWA_OL (S : MS) (v : Nat → Int32) : mWA (mOL_s S v) = mWA S := rfl
theorem gs_mWA_PI (S : MS) (v : Nat → Int32) : mWA (mPI_s S v) = mWA S := rfl
theorem gs_mWA_TR (S : MS) (v : Nat → Int32) : mWA (mTR_s S v) = mWA S := rfl
theorem gs_mWA_AR (S : MS) (v : Nat → Int32) : mWA (mAR_s S v) = mWA S := rfl
theorem gs_mWA_DE (S : MS) (v : Nat → Int32) : mWA (mDE_s S v) = mWA S := rfl
theorem gs_mWA_AO (S : MS) (v : Nat → Int32) : mWA (mAO_s S v) = mWA S := rfl
theorem gs_mWA_CC (S : MS) (v : Nat → Int32) : mWA (mCC_s S v) = mWA S := rfl
theorem gs_mWA_CB (S : MS) (v : Nat → Int32) : mWA (mCB_s S v) = mWA S := rfl
theorem gs_mWA_FI (S : MS) (v : Nat → Int32) : mWA (mFI_s S v) = mWA S := rfl
theorem gs_mWA_AV (S : MS) (v : Nat → Int32) : mWA (mAV_s S v) = mWA S := rfl
theorem gs_mWA_GA (S : MS) (v : Nat → Int32) : mWA (mGA_s S v) = mWA S := rfl
theorem gs_mWA_GP (S : MS) (v : Nat → Int32) : mWA (mGP_s S v) = mWA S := rfl
theorem gs_mWA_WA (S : MS) (v : Nat → Int32) : mWA (mWA_s S v) = v := rfl
theorem gs_mWA_VA (S : MS) (v : Nat → Int32) : mWA (mVA_s S v) = mWA S := rfl
theorem gs_mWA_LE (S : MS) (v : Nat → Int32) : mWA (mLE_s S v) = mWA S := rfl
theorem gs_mWA_TD (S : MS) (v : Nat → Int32) : mWA (mTD_s S v) = mWA S := rfl
theorem gs_mVA_TH (S : MS) (v : Int32) : mVA (mTH_s S v) = mVA S := rfl
theorem gs_mVA_ND (S : MS) (v : Int32) : mVA (mND_s S v) = mVA S := rfl
theorem gs_mVA_IP (S : MS) (v : Int32) : mVA (mIP_s S v) = mVA S := rfl
theorem gs_mVA_AN (S : MS) (v : Int32) : mVA (mAN_s S v) = mVA S := rfl
theorem gs_mVA_OU (S : MS) (v : Int32) : mVA (mOU_s S v) = mVA S := rfl
theorem gs_mVA_CE (S : MS) (v : Int32) : mVA (mCE_s S v) = mVA S := rfl
theorem gs_mVA_SL (S : MS) (v : Int32) : mVA (mSL_s S v) = mVA S := rfl
theorem gs_mVA_ON (S : MS) (v : Nat → Int32) : mVA (mON_s S v) = mVA S := rfl
theorem gs_mVA_TW (S : MS) (v : Nat → Int32) : mVA (mTW_s S v) = mVA S := rfl
theorem gs_mVA_IN (S : MS) (v : Nat → Int32) : mVA (mIN_s S v) = mVA S := rfl
theorem gs_mVA_TI (S : MS) (v : Nat → Int32) : mVA (mTI_s S v) = mVA S := rfl
theorem gs_mVA_OL (S : MS) (v : Nat → Int32) : mVA (mOL_s S v) = mVA S := rfl
theorem gs_mVA_PI (S : MS) (v : Nat → Int32) : mVA (mPI_s S v) = mVA S := rfl
theorem gs_mVA_TR (S : MS) (v : Nat → Int32) : mVA (mTR_s S v) = mVA S := rfl
theorem gs_mVA_AR (S : MS) (v : Nat → Int32) : mVA (mAR_s S v) = mVA S := rfl
theorem gs_mVA_DE (S : MS) (v : Nat → Int32) : mVA (mDE_s S v) = mVA S := rfl
theorem gs_mVA_AO (S : MS) (v : Nat → Int32) : mVA (mAO_s S v) = mVA S := rfl
theorem gs_mVA_CC (S : MS) (v : Nat → Int32) : mVA (mCC_s S v) = mVA S := rfl
theorem gs_mVA_CB (S : MS) (v : Nat → Int32) : mVA (mCB_s S v) = mVA S := rfl
theorem gs_mVA_FI (S : MS) (v : Nat → Int32) : mVA (mFI_s S v) = mVA S := rfl
theorem gs_mVA_AV (S : MS) (v : Nat → Int32) : mVA (mAV_s S v) = mVA S := rfl
theorem gs_mVA_GA (S : MS) (v : Nat → Int32) : mVA (mGA_s S v) = mVA S := rfl
theorem gs_mVA_GP (S : MS) (v : Nat → Int32) : mVA (mGP_s S v) = mVA S := rfl
theorem gs_mVA_WA (S : MS) (v : Nat → Int32) : mVA (mWA_s S v) = mVA S := rfl
theorem gs_mVA_VA (S : MS) (v : Nat → Int32) : mVA (mVA_s S v) = v := rfl
theorem gs_mVA_LE (S : MS) (v : Nat → Int32) : mVA (mLE_s S v) = mVA S := rfl
theorem gs_mVA_TD (S : MS) (v : Nat → Int32) : mVA (mTD_s S v) = mVA S := rfl
theorem gs_mLE_TH (S : MS) (v : Int32) : mLE (mTH_s S v) = mLE S := rfl
theorem gs_mLE_ND (S : MS) (v : Int32) : mLE (mND_s S v) = mLE S := rfl
theorem gs_mLE_IP (S : MS) (v : Int32) : mLE (mIP_s S v) = mLE S := rfl
theorem gs_mLE_AN (S : MS) (v : Int32) : mLE (mAN_s S v) = mLE S := rfl
theorem gs_mLE_OU (S : MS) (v : Int32) : mLE (mOU_s S v) = mLE S := rfl
theorem gs_mLE_CE (S : MS) (v : Int32) : mLE (mCE_s S v) = mLE S := rfl
theorem gs_mLE_SL (S : MS) (v : Int32) : mLE (mSL_s S v) = mLE S := rfl
theorem gs_mLE_ON (S : MS) (v : Nat → Int32) : mLE (mON_s S v) = mLE S := rfl
theorem gs_mLE_TW (S : MS) (v : Nat → Int32) : mLE (mTW_s S v) = mLE S := rfl
theorem gs_mLE_IN (S : MS) (v : Nat → Int32) : mLE (mIN_s S v) = mLE S := rfl
theorem gs_mLE_TI (S : MS) (v : Nat → Int32) : mLE (mTI_s S v) = mLE S := rfl
theorem gs_mLE_OL (S : MS) (v : Nat → Int32) : mLE (mOL_s S v) = mLE S := rfl
theorem gs_mLE_PI (S : MS) (v : Nat → Int32) : mLE (mPI_s S v) = mLE S := rfl
theorem gs_mLE_TR (S : MS) (v : Nat → Int32) : mLE (mTR_s S v) = mLE S := rfl
theorem gs_mLE_AR (S : MS) (v : Nat → Int32) : mLE (mAR_s S v) = mLE S := rfl
theorem gs_mLE_DE (S : MS) (v : Nat → Int32) : mLE (mDE_s S v) = mLE S := rfl
theorem gs_mLE_AO (S : MS) (v : Nat → Int32) : mLE (mAO_s S v) = mLE S := rfl
theorem gs_mLE_CC (S : MS) (v : Nat → Int32) : mLE (mCC_s S v) = mLE S := rfl
theorem gs_mLE_CB (S : MS) (v : Nat → Int32) : mLE (mCB_s S v) = mLE S := rfl
theorem gs_mLE_FI (S : MS) (v : Nat → Int32) : mLE (mFI_s S v) = mLE S := rfl
theorem gs_mLE_AV (S : MS) (v : Nat → Int32) : mLE (mAV_s S v) = mLE S := rfl
theorem gs_mLE_GA (S : MS) (v : Nat → Int32) : mLE (mGA_s S v) = mLE S := rfl
theorem gs_mLE_GP (S : MS) (v : Nat → Int32) : mLE (mGP_s S v) = mLE S := rfl
theorem gs_mLE_WA (S : MS) (v : Nat → Int32) : mLE (mWA_s S v) = mLE S := rfl
theorem gs_mLE_VA (S : MS) (v : Nat → Int32) : mLE (mVA_s S v) = mLE S := rfl
theorem gs_mLE_LE (S : MS) (v : Nat → Int32) : mLE (mLE_s S v) = v := rfl
theorem gs_mLE_TD (S : MS) (v : Nat → Int32) : mLE (mTD_s S v) = mLE S := rfl
theorem gs_mTD_TH (S : MS) (v : Int32) : mTD (mTH_s S v) = mTD S := rfl
theorem gs_mTD_ND (S : MS) (v : Int32) : mTD (mND_s S v) = mTD S := rfl
theorem gs_mTD_IP (S : MS) (v : Int32) : mTD (mIP_s S v) = mTD S := rfl
theorem gs_mTD_AN (S : MS) (v : Int32) : mTD (mAN_s S v) = mTD S := rfl
theorem gs_mTD_OU (S : MS) (v : Int32) : mTD (mOU_s S v) = mTD S := rfl
theorem gs_mTD_CE (S : MS) (v : Int32) : mTD (mCE_s S v) = mTD S := rfl
theorem gs_mTD_SL (S : MS) (v : Int32) : mTD (mSL_s S v) = mTD S := rfl
theorem gs_mTD_ON (S : MS) (v : Nat → Int32) : mTD (mON_s S v) = mTD S := rfl
theorem gs_mTD_TW (S : MS) (v : Nat → Int32) : mTD (mTW_s S v) = mTD S := rfl
theorem gs_mTD_IN (S : MS) (v : Nat → Int32) : mTD (mIN_s S v) = mTD S := rfl
theorem gs_mTD_TI (S : MS) (v : Nat → Int32) : mTD (mTI_s S v) = mTD S := rfl
theorem gs_mTD_OL (S : MS) (v : Nat → Int32) : mTD (mOL_s S v) = mTD S := rfl
theorem gs_mTD_PI (S : MS) (v : Nat → Int32) : mTD (mPI_s S v) = mTD S := rfl
theorem gs_mTD_TR (S : MS) (v : Nat → Int32) : mTD (mTR_s S v) = mTD S := rfl
theorem gs_mTD_AR (S : MS) (v : Nat → Int32) : mTD (mAR_s S v) = mTD S := rfl
theorem gs_mTD_DE (S : MS) (v : Nat → Int32) : mTD (mDE_s S v) = mTD S := rfl
theorem gs_mTD_AO (S : MS) (v : Nat → Int32) : mTD (mAO_s S v) = mTD S := rfl
theorem gs_mTD_CC (S : MS) (v : Nat → Int32) : mTD (mCC_s S v) = mTD S := rfl
theorem gs_mTD_CB (S : MS) (v : Nat → Int32) : mTD (mCB_s S v) = mTD S := rfl
theorem gs_mTD_FI (S : MS) (v : Nat → Int32) : mTD (mFI_s S v) = mTD S := rfl
theorem gs_mTD_AV (S : MS) (v : Nat → Int32) : mTD (mAV_s S v) = mTD S := rfl
theorem gs_mTD_GA (S : MS) (v : Nat → Int32) : mTD (mGA_s S v) = mTD S := rfl
theorem gs_mTD_GP (S : MS) (v : Nat → Int32) : mTD (mGP_s S v) = mTD S := rfl
theorem gs_mTD_WA (S : MS) (v : Nat → Int32) : mTD (mWA_s S v) = mTD S := rfl
theorem gs_mTD_VA (S : MS) (v : Nat → Int32) : mTD (mVA_s S v) = mTD S := rfl
theorem gs_mTD_LE (S : MS) (v : Nat → Int32) : mTD (mLE_s S v) = mTD S := rfl
theorem gs_mTD_TD (S : MS) (v : Nat → Int32) : mTD (mTD_s S v) = v := rfl
