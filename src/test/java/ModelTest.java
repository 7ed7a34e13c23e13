/** Promises 18 and 19: bits and loss without a plan. */
public final class ModelTest {
    private static final int BAD = RatePlanner.BAD;
    private static final int[] STEPS = {
        10, 11, 13, 14, 16, 18, 20, 22, 26, 28, 32, 36, 40, 44, 52, 56, 64, 72, 80, 88, 104, 112, 128, 144,
        160, 176, 208, 224, 256, 288, 320, 352, 416, 448, 512, 576, 640, 704, 832, 896, 1024, 1152,
        1280, 1408, 1664, 1792, 2048, 2304, 2560, 2816, 3328, 3584};

    public static void main(String[] args) {
        promise18BitsAt();
        promise19LossAt();
        Check.end("ModelTest");
    }

    private static void promise18BitsAt() {
        RatePlanner x = Check.clip(101, 30, 101, 30, 101, 30, 101, 30);
        for (int quantizer = 0; quantizer <= 51; quantizer++) {
            Check.due("intra " + quantizer, x.bitsAt(0, quantizer), 40 + 404 * 200 / STEPS[quantizer]);
            Check.due("bridge " + quantizer, x.bitsAt(1, quantizer), 40 + 80 * 200 / STEPS[quantizer]);
            Check.due("forward " + quantizer, x.bitsAt(3, quantizer), 40 + 161 * 200 / STEPS[quantizer]);
        }
        RatePlanner least = Check.clip(1, 0, 1, 0, 1, 0, 1, 0);
        Check.due("least intra", least.bitsAt(0, 51), 40);
        Check.due("bridge without work", least.bitsAt(1, 0), 40);
        Check.due("forward of work 1", least.bitsAt(3, 0), 60);
        RatePlanner most = Check.frames(4, 4000, 4000);
        Check.due("greatest intra", most.bitsAt(0, 0), 320040);
        Check.due("greatest bridge", most.bitsAt(1, 0), 120040);
        Check.due("greatest forward", most.bitsAt(3, 0), 240040);
        Check.due("bitsAt(-1, 0)", x.bitsAt(-1, 0), BAD);
        Check.due("bitsAt(4, 0)", x.bitsAt(4, 0), BAD);
        Check.due("bitsAt(0, -1)", x.bitsAt(0, -1), BAD);
        Check.due("bitsAt(0, 52)", x.bitsAt(0, 52), BAD);
        Check.due("bitsAt of an empty clip", new RatePlanner().bitsAt(0, 0), BAD);
    }

    private static void promise19LossAt() {
        RatePlanner x = Check.clip(101, 30, 101, 30, 101, 30, 101, 30, 10, 90);
        x.setWeight(1, 7);
        for (int quantizer = 0; quantizer <= 51; quantizer++) {
            int square = STEPS[quantizer] * STEPS[quantizer];
            Check.due("intra " + quantizer, x.lossAt(0, quantizer), 12 * square / 16);
            Check.due("bridge " + quantizer, x.lossAt(1, quantizer), 4 * square / 16);
            Check.due("forward " + quantizer, x.lossAt(3, quantizer), 8 * square / 16);
            Check.due("scene 1 " + quantizer, x.lossAt(4, quantizer), 21 * square / 16);
        }
        x.setWeight(0, 8);
        Check.due("greatest loss", x.lossAt(0, 51), 19267584);
        x.setWeight(0, 1);
        Check.due("least loss", x.lossAt(1, 0), 6);
        Check.due("lossAt(-1, 0)", x.lossAt(-1, 0), BAD);
        Check.due("lossAt(5, 0)", x.lossAt(5, 0), BAD);
        Check.due("lossAt(0, -1)", x.lossAt(0, -1), BAD);
        Check.due("lossAt(0, 52)", x.lossAt(0, 52), BAD);
        Check.due("lossAt of an empty clip", new RatePlanner().lossAt(0, 0), BAD);
    }
}
