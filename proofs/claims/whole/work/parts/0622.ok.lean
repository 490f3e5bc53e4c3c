theorem am_k21 : (List.range 9).all (fun k => am_okM (227 + k)) = true := by decide +kernel
