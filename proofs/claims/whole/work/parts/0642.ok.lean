theorem am_kl9 : (List.range 120).all (fun k => am_okA 299 (1080 + k)) = true := by decide +kernel
