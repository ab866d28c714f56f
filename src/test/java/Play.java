/** What the tests of boundary cases share: objects made ready, arguments beside a range, all that is told. */
final class Play {
    /** Fifteen things, together 1485 turns. */
    private static final String MANY_TURNS = ".99;.99;.99;.99;.99;.99;.99;.99;.99;.99;.99;.99;.99;.99;.99";

    private Play() {
    }

    /** A new object to which runners came. */
    static ShadowTag with(int... cellsAndHeights) {
        ShadowTag tag = new ShadowTag();
        for (int place = 0; place + 1 < cellsAndHeights.length; place += 2) {
            tag.come(cellsAndHeights[place], cellsAndHeights[place + 1]);
        }
        return tag;
    }

    /** The same with one lamp alone on, at a side and with a reach. */
    static ShadowTag lit(int side, int reach, int... cellsAndHeights) {
        ShadowTag tag = with(cellsAndHeights);
        tag.light(1, false);
        tag.light(2, false);
        tag.setLamp(0, 0, side);
        tag.setLamp(0, 1, reach);
        return tag;
    }

    static ShadowTag unlit(int... cellsAndHeights) {
        ShadowTag tag = lit(0, 1, cellsAndHeights);
        tag.light(0, false);
        return tag;
    }

    /** Two runners, each in the other's shadow, so that there is a tag whenever a respite allows it. */
    static ShadowTag facing(int respite) {
        ShadowTag tag = with(55, 2, 45, 1);
        tag.set(0, respite);
        return tag;
    }

    /** Lets 99990 turns pass in 132 calls: nine more are possible. */
    static ShadowTag nearTheLastTurn(ShadowTag tag) {
        Check.write(tag, MANY_TURNS);
        for (int time = 0; time < 67; time++) {
            tag.perform();
        }
        for (int time = 0; time < 5; time++) {
            tag.pass(99);
        }
        tag.clearText();
        return tag;
    }

    /** Arguments that are not in a range: just beside it, far from it, and such as wrap around into it. */
    static int[] beside(int least, int most) {
        return new int[] {least - 1, most + 1, least - 2, most + 2, least - 100, most + 100, least - 256, least + 256,
            least + 65536, Integer.MIN_VALUE, Integer.MAX_VALUE, Integer.MIN_VALUE + least + 1, Integer.MAX_VALUE - most};
    }

    /** All that is told of the state, of the text and of the latest stop, in at most 81 calls. */
    static String told(ShadowTag tag) {
        return state(tag) + tag.count(13) + ' ' + tag.stopped(0) + ' ' + tag.stopped(1);
    }

    /** All that is told of the state and how many states the history has, in at most 78 calls. */
    static String state(ShadowTag tag) {
        StringBuilder told = new StringBuilder();
        for (int what = 0; what < 13; what++) {
            told.append(tag.count(what)).append(' ');
        }
        int runners = tag.count(1);
        for (int runner = 0; runner < runners; runner++) {
            for (int what = 0; what < 8; what++) {
                told.append(tag.runner(runner, what)).append(' ');
            }
        }
        for (int lamp = 0; lamp < 3; lamp++) {
            for (int what = 0; what < 5; what++) {
                told.append(tag.lamp(lamp, what)).append(' ');
            }
        }
        return told.toString();
    }

    /** What tells one state from another in most cases, in at most 20 calls. */
    static String brief(ShadowTag tag) {
        StringBuilder told = new StringBuilder();
        for (int what = 0; what < 13; what++) {
            told.append(tag.count(what)).append(' ');
        }
        int runners = tag.count(1);
        for (int runner = 0; runner < runners; runner++) {
            told.append(tag.runner(runner, 0)).append(' ');
        }
        return told.toString();
    }
}
