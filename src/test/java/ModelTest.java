/** Long runs of drawn calls, each answered by NoisePost as by Model. The draws are always the same ones. */
final class ModelTest {
    private static final int RUNS = 100;
    private static final int CALLS = 512;
    // The calls that one text makes at the most, and the last digest.
    private static final int MOST_AT_ONCE = 27;

    private final Check check = new Check();
    private long drawn = 20261119;
    private int calls;
    private NoisePost post;
    private Model model;
    private String name;
    private int leastLevel;
    private int mostLevel;
    private int windyOf100;

    public static void main(String[] args) {
        ModelTest test = new ModelTest();
        for (int run = 0; run < RUNS; run++) {
            test.run(run);
        }
        test.check.end("ModelTest");
    }

    private void run(int run) {
        post = new NoisePost();
        model = new Model();
        leastLevel = draw(0, 100);
        mostLevel = draw(leastLevel, 140);
        windyOf100 = draw(0, 3) * 8;
        calls = 0;
        while (calls < CALLS - MOST_AT_ONCE) {
            name = "run " + run + ", ";
            if (calls < 30 && run % 3 > 0) {
                setSomething();
            } else if (draw(1, 100) <= 45) {
                change();
            } else {
                ask();
            }
        }
        same("digest()", post::digest, model::digest);
    }

    private void setSomething() {
        int setting = draw(0, 9);
        int value = draw(0, 9) == 0 ? draw(-1, 142) : usual(setting);
        same("set(" + setting + ", " + value + ")", () -> post.set(setting, value), () -> model.set(setting, value));
    }

    /** A value of the setting with which exceedances come and go. */
    private int usual(int setting) {
        switch (setting) {
            case 0:
            case 1:
                return draw(leastLevel, mostLevel);
            case 2:
                return draw(0, 59);
            case 3:
                return draw(0, 60);
            case 4:
                return draw(1, 41);
            case 5:
                return draw(0, 4);
            case 6:
                return draw(1, 5);
            case 7:
                return draw(0, 60);
            case 8:
                return draw(1, 20);
            default:
                return draw(1, draw(1, 50));
        }
    }

    private void change() {
        int kind = draw(0, 99);
        if (kind < 35) {
            tell();
        } else if (kind < 50) {
            setSomething();
        } else if (kind < 60) {
            int minute = draw(0, 20) == 0 ? draw(-2, 210) : draw(0, Math.max(0, model.count(0) - 1));
            int level = level();
            int wind = wind();
            same("correct(" + minute + ", " + level + ", " + wind + ")",
                () -> post.correct(minute, level, wind), () -> model.correct(minute, level, wind));
        } else if (kind < 64) {
            int minutes = draw(0, 20) == 0 ? draw(-1, 201) : draw(1, 20);
            same("forget(" + minutes + ")", () -> post.forget(minutes), () -> model.forget(minutes));
        } else if (kind < 78) {
            int minute = draw(0, 20) == 0 ? draw(-2, 302) : draw(0, model.count(0) + 20);
            same("complain(" + minute + ")", () -> post.complain(minute), () -> model.complain(minute));
        } else if (kind < 84) {
            int complaint = draw(-1, 20);
            same("withdraw(" + complaint + ")", () -> post.withdraw(complaint), () -> model.withdraw(complaint));
        } else if (kind < 92) {
            text();
        } else {
            same("undo()", post::undo, model::undo);
        }
    }

    private void tell() {
        int level = level();
        int wind = wind();
        int minutes = draw(0, 30) == 0 ? draw(-1, 62) : draw(1, draw(1, 12));
        same("tell(" + level + ", " + wind + ", " + minutes + ")",
            () -> post.tell(level, wind, minutes), () -> model.tell(level, wind, minutes));
    }

    private void text() {
        if (draw(0, 2) == 0) {
            same("clearBuffer()", post::clearBuffer, model::clearBuffer);
        }
        int length = draw(0, 12);
        for (int i = 0; i < length; i++) {
            int code = draw(0, 40) == 0 ? draw(30, 130) : "0123456789124@@**;;".charAt(draw(0, 18));
            same("append(" + code + ")", () -> post.append(code), () -> model.append(code));
            if (model.firstError() < 60 && draw(0, 5) > 0) {
                same("firstError()", post::firstError, model::firstError);
            }
        }
        if (draw(0, 1) == 0) {
            same("load()", post::load, model::load);
        }
    }

    private void ask() {
        int what = draw(-1, 12);
        int level = draw(-1, 141);
        int percent = draw(0, 101);
        int setting = draw(0, 20) == 0 ? draw(-1, 10) : draw(0, 9);
        int number = draw(-1, 12);
        int minute = draw(-1, model.count(0));
        switch (draw(0, 11)) {
            case 0:
            case 1:
                same("minute(" + minute + ", " + what + ")",
                    () -> post.minute(minute, what), () -> model.minute(minute, what));
                break;
            case 2:
            case 3:
                same("exceedance(" + number + ", " + what + ")",
                    () -> post.exceedance(number, what), () -> model.exceedance(number, what));
                break;
            case 4:
                same("complaint(" + number + ", " + draw01(what) + ")",
                    () -> post.complaint(number, draw01(what)), () -> model.complaint(number, draw01(what)));
                break;
            case 5:
                same("levelCount(" + level + ")", () -> post.levelCount(level), () -> model.levelCount(level));
                break;
            case 6:
                same("percentLevel(" + percent + ")",
                    () -> post.percentLevel(percent), () -> model.percentLevel(percent));
                break;
            case 7:
                same("count(" + what + ")", () -> post.count(what), () -> model.count(what));
                same("share()", post::share, model::share);
                break;
            case 8:
                same("setting(" + setting + ")", () -> post.setting(setting), () -> model.setting(setting));
                break;
            case 9:
                int value = draw(0, 20) == 0 ? draw(-1, 142) : usual(Math.max(0, setting));
                same("ifSet(" + setting + ", " + value + ", " + what + ")",
                    () -> post.ifSet(setting, value, what), () -> model.ifSet(setting, value, what));
                break;
            case 10:
                same("leastLimit(" + number + ")", () -> post.leastLimit(number), () -> model.leastLimit(number));
                break;
            default:
                same("aboveIn(" + level + ")", () -> post.aboveIn(level), () -> model.aboveIn(level));
                if (draw(0, 9) == 0) {
                    same("digest()", post::digest, model::digest);
                }
                break;
        }
    }

    private static int draw01(int what) {
        return what > 3 ? what & 1 : what;
    }

    private int level() {
        return draw(0, 60) == 0 ? draw(-1, 141) : draw(leastLevel, mostLevel);
    }

    private int wind() {
        return draw(1, 100) <= windyOf100 ? draw(0, 41) : draw(0, 3);
    }

    private void same(String call, Check.Call got, Check.Call due) {
        calls++;
        check.is(name + "call " + calls + ", " + call, Check.answer(due), Check.answer(got));
    }

    private int draw(int least, int most) {
        drawn = drawn * 6364136223846793005L + 1442695040888963407L;
        return least + (int) ((drawn >>> 33) % (most - least + 1));
    }
}
