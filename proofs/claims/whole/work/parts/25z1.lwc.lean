/-! the law's instructions, by count -/
section LWC1
set_option maxRecDepth 100000
def nPut (e : PE) : Bool := match e.2.1 with
  | .putfield _ => false
  | _ => true
def lwR (e : PE) : Bool := match e.2.1 with
  | .ireturn => decide (decode code e.1 = .ok (.ireturn, 1))
  | _ => false
def lwK (e : PE) : Bool := (ckE code 311 e && nPut e) || lwE code 311 e || lwR e
theorem lwc_0 : (((pt 311).drop 0).take 40).all lwK = true := by decide +kernel
theorem lwc_40 : (((pt 311).drop 40).take 40).all lwK = true := by decide +kernel
theorem lwc_80 : (((pt 311).drop 80).take 40).all lwK = true := by decide +kernel
theorem lwc_120 : (((pt 311).drop 120).take 40).all lwK = true := by decide +kernel
theorem lwc_160 : (((pt 311).drop 160).take 40).all lwK = true := by decide +kernel
theorem lwc_200 : (((pt 311).drop 200).take 40).all lwK = true := by decide +kernel
theorem lwc_240 : (((pt 311).drop 240).take 40).all lwK = true := by decide +kernel
theorem lwc_280 : (((pt 311).drop 280).take 40).all lwK = true := by decide +kernel
theorem lwc_320 : (((pt 311).drop 320).take 40).all lwK = true := by decide +kernel
theorem lwc_360 : (((pt 311).drop 360).take 40).all lwK = true := by decide +kernel
theorem lwc_400 : (((pt 311).drop 400).take 40).all lwK = true := by decide +kernel
theorem lwc_440 : (((pt 311).drop 440).take 40).all lwK = true := by decide +kernel
theorem lwc_480 : (((pt 311).drop 480).take 40).all lwK = true := by decide +kernel
end LWC1
