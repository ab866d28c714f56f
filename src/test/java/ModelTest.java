/** Long runs of calls, made by a fixed rule, whose answers are compared with those of Model. */
public final class ModelTest {
    private static final int RUNS = 3000;
    private static final int CALLS = 512;
    private static final Check CHECK = new Check();

    private long seed;
    private ShadowTag tag;
    private Model model;

    private ModelTest(int run) {
        seed = run * 7919L + 17;
        tag = new ShadowTag();
        model = new Model();
    }

    public static void main(String[] args) {
        for (int run = 0; run < RUNS && CHECK.wrongSoFar() < 20; run++) {
            CHECK.about("run " + run);
            ModelTest test = new ModelTest(run);
            boolean textual = run % 5 == 4;
            int calls = 0;
            while (calls < CALLS) {
                calls += textual && test.below(3) == 0 ? test.wholeText(CALLS - calls) : test.anyCall();
            }
        }
        CHECK.end("ModelTest");
    }

    private int below(int bound) {
        seed = seed * 6364136223846793005L + 1442695040888963407L;
        return (int) ((seed >>> 33) % bound);
    }

    /** Mostly a number in a range, at times one beside it. */
    private int near(int least, int most) {
        if (below(12) == 0) {
            int[] wrong = {least - 1, most + 1, -1, Integer.MAX_VALUE, Integer.MIN_VALUE};
            return wrong[below(wrong.length)];
        }
        return least + below(most - least + 1);
    }

    /** Cells in the middle and the corners meet more often. */
    private int cell() {
        switch (below(3)) {
            case 0: return near(0, 99);
            case 1: return 33 + below(4) + 10 * below(4);
            default: return new int[] {0, 1, 10, 9, 8, 19, 90, 80, 91, 99, 98, 89}[below(12)];
        }
    }

    private int anyCall() {
        int kind = below(100);
        if (kind < 45) {
            act(kind);
        } else if (kind < 55) {
            history(kind);
        } else {
            tell(kind);
        }
        return 1;
    }

    private void act(int kind) {
        if (kind < 6) {
            int cell = cell(), height = near(1, 5);
            CHECK.due("come(" + cell + ", " + height + ")", tag.come(cell, height), model.come(cell, height));
        } else if (kind < 16) {
            int runner = near(0, 5), way = near(-1, 3);
            CHECK.due("head(" + runner + ", " + way + ")", tag.head(runner, way), model.head(runner, way));
        } else if (kind < 21) {
            int lamp = near(0, 2);
            boolean on = below(3) != 0;
            CHECK.due("light(" + lamp + ", " + on + ")", tag.light(lamp, on), model.light(lamp, on));
        } else if (kind < 27) {
            int lamp = near(0, 2), which = near(0, 2), value = near(0, new int[] {3, 4, 9}[below(3)]);
            CHECK.due("setLamp(" + lamp + ", " + which + ", " + value + ")",
                tag.setLamp(lamp, which, value), model.setLamp(lamp, which, value));
        } else if (kind < 30) {
            int which = near(0, 1), value = near(0, 9);
            CHECK.due("set(" + which + ", " + value + ")", tag.set(which, value), model.set(which, value));
        } else if (kind < 40) {
            int turns = near(1, below(5) == 0 ? 99 : 3);
            CHECK.due("pass(" + turns + ")", tag.pass(turns), model.pass(turns));
        } else {
            char sign = "rdl.;h0123456789nesw-+x".charAt(below(23));
            CHECK.due("type('" + sign + "')", tag.type(sign), model.type(sign));
        }
    }

    private void history(int kind) {
        if (kind < 48) {
            CHECK.due("undo()", tag.undo(), model.undo());
        } else if (kind < 50) {
            CHECK.due("keep()", tag.keep(), model.keep());
        } else if (kind < 51) {
            CHECK.due("restore()", tag.restore(), model.restore());
        } else if (kind < 52) {
            CHECK.due("clearText()", tag.clearText(), model.clearText());
        } else if (kind < 53) {
            CHECK.due("perform()", tag.perform(), model.perform());
        } else {
            int what = near(0, 1);
            CHECK.due("stopped(" + what + ")", tag.stopped(what), model.stopped(what));
        }
    }

    private void tell(int kind) {
        int runner = near(0, 5), lamp = near(0, 2), cell = cell(), what;
        switch (kind % 11) {
            case 0:
                what = near(0, 7);
                CHECK.due("runner(" + runner + ", " + what + ")", tag.runner(runner, what), model.runner(runner, what));
                break;
            case 1:
                what = near(0, 4);
                CHECK.due("lamp(" + lamp + ", " + what + ")", tag.lamp(lamp, what), model.lamp(lamp, what));
                break;
            case 2:
                what = near(0, 2);
                CHECK.due("shadow(" + runner + ", " + lamp + ", " + what + ")",
                    tag.shadow(runner, lamp, what), model.shadow(runner, lamp, what));
                break;
            case 3:
                CHECK.due("darkness(" + cell + ")", tag.darkness(cell), model.darkness(cell));
                break;
            case 4:
                CHECK.due("looked(" + cell + ")", tag.looked(cell), model.looked(cell));
                break;
            case 5:
                CHECK.due("at(" + cell + ")", tag.at(cell), model.at(cell));
                break;
            case 6:
                CHECK.due("reason(" + runner + ")", tag.reason(runner), model.reason(runner));
                break;
            case 7:
                CHECK.due("stepsTo(" + runner + ")", tag.stepsTo(runner), model.stepsTo(runner));
                break;
            case 8:
                CHECK.due("safest()", tag.safest(), model.safest());
                break;
            case 9: {
                int turns = near(1, below(2) == 0 ? 99 : 4);
                what = near(0, 2);
                CHECK.due("ifTurns(" + turns + ", " + what + ")", tag.ifTurns(turns, what), model.ifTurns(turns, what));
                break;
            }
            default:
                what = near(0, 13);
                CHECK.due("count(" + what + ")", tag.count(what), model.count(what));
        }
    }

    /** Types a game, at times with a wrong sign in it, performs it and asks for the stop. */
    private int wholeText(int room) {
        StringBuilder text = new StringBuilder();
        int things = 1 + below(5);
        for (int thing = 0; thing < things; thing++) {
            text.append(thing == 0 ? "" : ";").append(thing());
        }
        if (below(3) == 0) {
            text.setCharAt(below(text.length()), "rdl.;h0123456789nesw-+".charAt(below(22)));
        }
        if (text.length() + 4 > room) {
            return anyCall();
        }
        CHECK.due("clearText()", tag.clearText(), model.clearText());
        for (int place = 0; place < text.length(); place++) {
            CHECK.due("type", tag.type(text.charAt(place)), model.type(text.charAt(place)));
        }
        CHECK.due("perform() of " + text, tag.perform(), model.perform());
        CHECK.due("stopped(0)", tag.stopped(0), model.stopped(0));
        CHECK.due("stopped(1)", tag.stopped(1), model.stopped(1));
        return text.length() + 4;
    }

    private String thing() {
        switch (below(4)) {
            case 0: return "r" + below(100) + "h" + (1 + below(5));
            case 1: return "d" + below(4) + "nesw-".charAt(below(5));
            case 2: return "l" + below(3) + "+-".charAt(below(2));
            default: return "." + (1 + below(below(4) == 0 ? 99 : 9));
        }
    }
}
