/** Promises 8 to 11: the text, the game that it tells, and the latest stop. */
public final class TextTest {
    private static final Check CHECK = new Check();

    public static void main(String[] args) {
        type();
        clearText();
        faults();
        faultsAtEveryPlace();
        performs();
        performsAll();
        performsNothing();
        performsOneAct();
        stopped();
        stopsByEachError();
        CHECK.end("TextTest");
    }

    private static void type() {
        CHECK.about("promise 8");
        ShadowTag tag = new ShadowTag();
        char[] signs = {'r', 0, 65535, 255, 256, ' '};
        for (int place = 0; place < 60; place++) {
            CHECK.due("type", tag.type(signs[place % signs.length]), place + 1);
        }
        CHECK.due("type", tag.type('r'), ShadowTag.FULL);
        CHECK.due("count(13)", tag.count(13), 60);
        CHECK.due("perform()", tag.perform(), -101);
        CHECK.due("states", tag.count(12), 0);
    }

    private static void clearText() {
        CHECK.about("promise 9");
        ShadowTag tag = new ShadowTag();
        CHECK.due("clearText()", tag.clearText(), 0);
        Check.write(tag, "l0-");
        CHECK.due("clearText()", tag.clearText(), 3);
        CHECK.due("clearText()", tag.clearText(), 0);
        CHECK.due("perform()", tag.perform(), -100);
        CHECK.due("type", tag.type('l'), 1);
        CHECK.due("states", tag.count(12), 0);
    }

    private static void faults() {
        CHECK.about("promise 10, faults");
        Object[][] rows = {
            {"", 0}, {"x", 0}, {";", 0}, {"R", 0}, {" ", 0},
            {"r", 1}, {"rh", 1}, {"r-", 1}, {"r5", 2}, {"r55", 3}, {"r555", 3}, {"r100h1", 3},
            {"r00", 2}, {"r05h1", 2}, {"r0", 2}, {"r0h", 3}, {"r0h0", 3}, {"r0h6", 3}, {"r0h10", 4},
            {"r99h55", 5}, {"r5x", 2}, {"r5h1 ", 4}, {"r5h1x", 4}, {"r5h1;", 5}, {"r5h1;;", 5},
            {"d", 1}, {"d6n", 1}, {"dn", 1}, {"d0", 2}, {"d00", 2}, {"d5x", 2}, {"d5+", 2}, {"d5nn", 3},
            {"d5-;", 4}, {"d12", 2},
            {"l", 1}, {"l3+", 1}, {"l+", 1}, {"l0", 2}, {"l0n", 2}, {"l00", 2}, {"l2++", 3}, {"l2-;l", 5},
            {".", 1}, {".0", 1}, {".x", 1}, {".100", 3}, {".1x", 2}, {".99.", 3}, {".99;", 4}, {".01", 1},
            {".1;.1;.1;.1;.1;.1;.1;.1;.1;.1;.1;.1;.1;.1;.1;.1;.1;.1;.1;.1;", 60},
        };
        for (Object[] row : rows) {
            ShadowTag tag = new ShadowTag();
            CHECK.due("'" + row[0] + "'", Check.perform(tag, (String) row[0]), -100 - (Integer) row[1]);
            CHECK.due("'" + row[0] + "' is no stop", tag.stopped(0), ShadowTag.NONE);
            CHECK.due("'" + row[0] + "' records nothing", tag.count(12), 0);
            CHECK.due("'" + row[0] + "' stays", tag.count(13), ((String) row[0]).length());
        }
    }

    private static void faultsAtEveryPlace() {
        CHECK.about("promise 10, wrong signs");
        String game = "r10h2;d0e;l2-;.10;r99h5;d5-;l0+;.1";
        for (int place = 0; place < game.length(); place++) {
            ShadowTag tag = new ShadowTag();
            String wrong = game.substring(0, place) + "?" + game.substring(place + 1);
            CHECK.due(wrong, Check.perform(tag, wrong), -100 - place);
        }
        for (char sign = 0; sign < 300; sign++) {
            boolean number = sign >= '0' && sign <= '9';
            ShadowTag tag = new ShadowTag();
            tag.type(sign);
            boolean begins = sign == 'r' || sign == 'd' || sign == 'l' || sign == '.';
            CHECK.due("sign " + (int) sign, tag.perform(), begins ? -101 : -100);
            Check.write(tag, "r1");
            tag.type(sign);
            CHECK.due("r1 and sign " + (int) sign, tag.perform(), number || sign == 'h' ? -103 : -102);
        }
    }

    private static void performs() {
        CHECK.about("promise 10");
        ShadowTag tag = new ShadowTag();
        CHECK.due("one runner", Check.perform(tag, "r0h5"), 1);
        CHECK.due("at(0)", tag.at(0), 0);
        CHECK.due("height", tag.runner(0, 1), 5);
        CHECK.due("text stays", tag.count(13), 4);
        CHECK.due("three", Check.perform(tag, "r99h1;r10h3;r9h4"), 3);
        CHECK.due("at(99)", tag.at(99), 1);
        CHECK.due("at(10)", tag.at(10), 2);
        CHECK.due("height", tag.runner(2, 1), 3);
        String ways = "nesw";
        for (int way = 0; way < 4; way++) {
            CHECK.due("direction", Check.perform(tag, "d3" + ways.charAt(way)), 1);
            CHECK.due("direction", tag.runner(3, 2), way);
        }
        CHECK.due("no direction", Check.perform(tag, "d3-"), 1);
        CHECK.due("no direction", tag.runner(3, 2), 4);
        CHECK.due("lamps off", Check.perform(tag, "l0-;l1-;l2-"), 3);
        CHECK.due("lamps", tag.count(3), 0);
        CHECK.due("a lamp on", Check.perform(tag, "l1+"), 1);
        CHECK.due("lamp(1, 3)", tag.lamp(1, 3), 1);
        CHECK.due("turns", Check.perform(tag, ".99;.1;.20"), 3);
        CHECK.due("turn", tag.count(0), 120);
        String twenty = ".1;.1;.1;.1;.1;.1;.1;.1;.1;.1;.1;.1;.1;.1;.1;.1;.1;.1;.1;.12";
        CHECK.due("twenty", Check.perform(tag, twenty), 20);
        CHECK.due("turn", tag.count(0), 151);
    }

    private static void performsAll() {
        CHECK.about("promise 10, in order");
        ShadowTag tag = new ShadowTag();
        CHECK.due("perform", Check.perform(tag, "r55h2;r45h3;d0n;d1-;l1-;l1-;.3"), 7);
        CHECK.due("turn", tag.count(0), 3);
        CHECK.due("catcher", tag.count(2), 1);
        CHECK.due("lamps", tag.count(3), 2);
        CHECK.due("states", tag.count(12), 1);
        CHECK.due("again", tag.perform(), ShadowTag.NOT_POSSIBLE);
        CHECK.due("undo", tag.undo(), 0);
        CHECK.due("runners", tag.count(1), 0);
        CHECK.due("turn", tag.count(0), 0);
    }

    private static void performsNothing() {
        CHECK.about("promise 10, all or nothing");
        ShadowTag tag = new ShadowTag();
        tag.come(5, 2);
        CHECK.due("stopped at last", Check.perform(tag, "r6h1;l0-;d0s;.5;r16h1;d0s;r5h1;r55h1"), ShadowTag.NOT_POSSIBLE);
        CHECK.due("stopped(0)", tag.stopped(0), 7);
        CHECK.due("runners", tag.count(1), 1);
        CHECK.due("at(5)", tag.at(5), 0);
        CHECK.due("not stopped", Check.perform(tag, "r6h1;l0-;d0s;.5;r16h1;d0s;r5h1;r56h1"), 8);
        CHECK.due("at(5)", tag.at(5), 3);
        CHECK.due("at(56)", tag.at(56), 4);
        ShadowTag other = new ShadowTag();
        other.come(5, 2);
        CHECK.due("stopped", Check.perform(other, "r6h1;l0-;d1s;.2;r26h1;r5h3"), ShadowTag.NOT_POSSIBLE);
        CHECK.due("runners", other.count(1), 1);
        CHECK.due("lamps", other.count(3), 3);
        CHECK.due("turn", other.count(0), 0);
        CHECK.due("states", other.count(12), 1);
        CHECK.due("steps", other.count(7), 0);
        CHECK.due("text", other.count(13), 26);
    }

    private static void performsOneAct() {
        CHECK.about("promise 10, one act");
        ShadowTag tag = new ShadowTag();
        CHECK.due("only what is so already", Check.perform(tag, "l0+;l1+"), 2);
        CHECK.due("states", tag.count(12), 1);
        CHECK.due("undo", tag.undo(), 0);
        CHECK.due("fault before the stop", Check.perform(tag, "d0n;x"), -104);
        CHECK.due("stopped", tag.stopped(0), ShadowTag.NONE);
    }

    private static void stopped() {
        CHECK.about("promise 11");
        ShadowTag tag = new ShadowTag();
        CHECK.due("stopped(-1)", tag.stopped(-1), ShadowTag.BAD_VALUE);
        CHECK.due("stopped(2)", tag.stopped(2), ShadowTag.BAD_VALUE);
        CHECK.due("stopped(0)", tag.stopped(0), ShadowTag.NONE);
        CHECK.due("stopped(1)", tag.stopped(1), ShadowTag.NONE);
        CHECK.due("perform", Check.perform(tag, "d0n"), ShadowTag.NOT_POSSIBLE);
        CHECK.due("stopped(0)", tag.stopped(0), 0);
        CHECK.due("stopped(1)", tag.stopped(1), ShadowTag.UNKNOWN);
        CHECK.due("perform", Check.perform(tag, "r5h1;l0+;r5h2;d3n"), ShadowTag.NOT_POSSIBLE);
        CHECK.due("stopped(0)", tag.stopped(0), 2);
        CHECK.due("stopped(1)", tag.stopped(1), ShadowTag.NOT_POSSIBLE);
        CHECK.due("perform", Check.perform(tag, "r5h1"), 1);
        tag.undo();
        tag.keep();
        tag.restore();
        CHECK.due("perform", Check.perform(tag, "r5h"), -103);
        CHECK.due("stopped(0)", tag.stopped(0), 2);
        CHECK.due("stopped(1)", tag.stopped(1), ShadowTag.NOT_POSSIBLE);
        CHECK.due("stopped(2)", tag.stopped(2), ShadowTag.BAD_VALUE);
    }

    private static void stopsByEachError() {
        CHECK.about("promise 11, errors");
        ShadowTag tag = new ShadowTag();
        CHECK.due("too many", Check.perform(tag, "r0h1;r1h1;r2h1;r3h1;r4h1;r5h1;.1;r7h1"), ShadowTag.NOT_POSSIBLE);
        CHECK.due("stopped(0)", tag.stopped(0), 7);
        CHECK.due("stopped(1)", tag.stopped(1), ShadowTag.FULL);
        CHECK.due("standing", Check.perform(tag, "r0h1;r1h1;r2h1;r3h1;r4h1;r5h1;r5h2"), ShadowTag.NOT_POSSIBLE);
        CHECK.due("stopped(0)", tag.stopped(0), 6);
        CHECK.due("stopped(1)", tag.stopped(1), ShadowTag.NOT_POSSIBLE);
        CHECK.due("nobody", Check.perform(tag, "r0h1;d1-"), ShadowTag.NOT_POSSIBLE);
        CHECK.due("stopped(0)", tag.stopped(0), 1);
        CHECK.due("stopped(1)", tag.stopped(1), ShadowTag.UNKNOWN);
        CHECK.due("runners", tag.count(1), 0);
    }
}
