theorem am_k29 : (List.range 8).all (fun k => am_okM (271 + k)) = true := by decide +kernel
