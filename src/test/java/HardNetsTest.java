/**
 * Nets of five events that are hard: each was found by changing observations little by little, as long as a call
 * took more steps, or as composing left more than there really is. Random nets are hardly ever so. Every answer
 * is that of the model.
 */
public final class HardNetsTest {
    private static final String[] NETS = {
        // many steps to what is left really
        "d7801a;b4095d;e6543a;d1527e;e397a;e7536d;e7793b;b6551e;",
        "e6705d;a8190d;d4643e;e449a;e1411a;b4095d;d6909e;b59e;",
        "d4095a;d5153e;e4607a;e973a;d5068c;c3705e;e6081a;e5929d;",
        // to the first 300 histories
        "e6481a;b8187d;e7936b;d7795e;d4095a;e8064c;e6693a;d7416e;",
        "e5039a;b2177e;e583c;d8163e;a6137e;d234e;e1687a;d8157b;",
        "c8124a;a6733e;b7209e;a8026e;b2433e;a7615d;d2051e;b1527d;",
        // to the first history, or to none
        "e6209a;a4763e;d8040e;e8031a;b111e;c4219e;d4351b;a8184d;",
        "e8118d;e4063a;e7960d;e4855b;b2515e;b3071d;a4079d;e495a;",
        "d8158c;d7801a;d950e;e4481a;c6850e;c7800b;a4046b;a6080c;",
        // to a quarrel, and to the blame
        "a5069b;e2146a;b543d;a6306e;e736b;d225e;d7941a;b5885a;",
        "d3704c;b198c;e6336b;a2672e;d2241e;b3998d;b160a;a8156d;",
        "d567e;d7604b;b2632e;c4221d;c973b;d533e;e7660c;e2144c;",
        "e767b;b6224c;b1964e;e2272d;e908b;c3710d;d5649b;c5296e;",
        // to the eldest
        "d7350a;b7865a;e3690b;d609e;c7800e;a4567b;e987a;b6143d;",
        "c8154e;e1864d;c2047d;e1463a;e7929c;b1023d;d6909a;e2617b;",
        // to what is unseen
        "a4509e;b4095d;d4095a;b4095d;e5056b;e897a;e4099d;e2819a;",
        "d6142b;a4047b;b4168e;e387a;d763e;a5071d;b4479e;c7167d;",
        "a8130e;a4078e;b8038d;b154e;a8162d;d2758e;e1142d;a3027e;",
        // composing leaves 70, 67, 65 relations more than there really are
        "d900a;c995d;a2303b;d6399b;c7936b;e8169d;e246a;c1277a;",
        "e6659b;a4872d;a3115e;e1207c;a502b;e888d;c763b;b3555d;",
        "b7600a;d637a;d7408c;e911c;e5103d;b1611d;a2170c;b463e;",
        // composing leaves something of every two, and there is no history
        "e2044a;b6008c;b6351e;c7246e;c7104a;a7144b;c6680e;e7339b;",
        "c7913d;d6606c;e3881c;c2814b;e152d;d3915b;e6310b;b8189c;",
        "a7383d;b3520d;b3820a;c6753b;a3024c;d7563a;d2803b;c1790d;"};

    private static int answers = 0;
    private static int wrong = 0;

    private final String net;
    private final OutcropAges real = new OutcropAges();
    private final Model model = new Model();

    private HardNetsTest(String net) {
        this.net = net;
        tell("events 5; " + net);
    }

    private void due(String call, int got, int want) {
        answers++;
        if (got != want) {
            wrong++;
            System.out.println(net + " " + call + " answered " + got + ", due is " + want);
        }
    }

    private void tell(String text) {
        for (int i = 0; i < text.length(); i++) due("type", real.type(text.charAt(i)), model.type(text.charAt(i)));
        due("tells()", real.tells(), model.tells());
    }

    private void askPairs() {
        for (int x = 0; x < 5; x++) {
            for (int y = 0; y < 5; y++) {
                for (int what = 0; what < 3; what++) {
                    due("left(" + x + ", " + y + ", " + what + ")", real.left(x, y, what), model.left(x, y, what));
                }
            }
        }
    }

    private void askHistories() {
        due("many(1)", real.many(1), model.many(1));
        due("many(300)", real.many(300), model.many(300));
        for (int k = 0; k < 300; k += k < 4 ? 1 : 37) {
            for (int i = 0; i < 25; i++) {
                due("history(" + k + ", " + i / 5 + ", " + i % 5 + ")", real.history(k, i / 5, i % 5), model.history(k, i / 5, i % 5));
            }
        }
        for (int i = 0; i < 10; i++) due("point(" + i / 2 + ", " + i % 2 + ")", real.point(i / 2, i % 2), model.point(i / 2, i % 2));
        due("count(5)", real.count(5), model.count(5));
    }

    private void askReasons() {
        due("wrong(0)", real.wrong(0), model.wrong(0));
        due("wrong(1)", real.wrong(1), model.wrong(1));
        due("eldest()", real.eldest(), model.eldest());
        due("next()", real.next(), model.next());
    }

    /** Of each observation: what is left without it, and who is unseen by what its history would have. */
    private void takeEach() {
        for (int k = 0; k < 8; k++) {
            due("takes(" + k + ")", real.takes(k), model.takes(k));
            due("many(300) without " + k, real.many(300), model.many(300));
            due("eldest() without " + k, real.eldest(), model.eldest());
            int r = Math.max(0, model.history(0, 4, 0));
            due("undo()", real.undo(), model.undo());
            due("sees(4, " + r + ", 0)", real.sees(4, r, 0), model.sees(4, r, 0));
            due("unseen(), seen as without " + k, real.unseen(), model.unseen());
            due("forget()", real.forget(), model.forget());
        }
    }

    public static void main(String[] args) {
        for (String net : NETS) {
            HardNetsTest asked = new HardNetsTest(net);
            asked.askPairs();
            asked.askHistories();
            asked.askReasons();
            new HardNetsTest(net).takeEach();
        }
        System.out.println(NETS.length + " nets, " + answers + " answers, " + wrong + " of them are not as due");
        if (wrong != 0) System.exit(1);
    }
}
