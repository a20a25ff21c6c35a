import java.util.ArrayList;
import java.util.List;

/** A call that throws changes nothing, and no call throws anything but what the document names. */
final class ThrowsTest {
    private final Check check = new Check();

    public static void main(String[] args) {
        ThrowsTest test = new ThrowsTest();
        for (String text : new String[] {"", "x", "5*1", "5*60", "5*60;6*60;7*60;8*60"}) {
            test.nothingIsChanged(text);
        }
        test.anyArguments();
        test.check.end("ThrowsTest");
    }

    private static NoisePost post(String text) {
        NoisePost post = new NoisePost();
        post.tell(90, 3, 60);
        post.tell(20, 0, 10);
        post.tell(100, 0, 40);
        post.tell(30, 17, 40);
        for (int complaint = 0; complaint < 20; complaint++) {
            post.complain(complaint * 6);
        }
        post.set(9, 4);
        Posts.write(post, text);
        return post;
    }

    /** Two posts alike; one of them is called with what throws; then both are undone, step by step. */
    private void nothingIsChanged(String text) {
        NoisePost called = post(text);
        NoisePost spared = post(text);
        for (Check.Call call : wrongCalls(called)) {
            String answer = String.valueOf(Check.answer(call));
            check.is(answer, true, answer.startsWith("throws "));
            check.is("digest behind a call that throws", spared.digest(), called.digest());
        }
        for (int left = 7; left >= 0; left--) {
            check.is("undo()", spared.undo(), called.undo());
            check.is("digest of what was saved", spared.digest(), called.digest());
        }
        check.isThrown("nothing is left", Posts.STATE, called::undo);
        check.is("digest behind a call that throws", spared.digest(), called.digest());
        check.is("the buffer", text.length(), called.clearBuffer());
    }

    private static List<Check.Call> wrongCalls(NoisePost post) {
        List<Check.Call> calls = new ArrayList<>();
        calls.add(() -> post.set(0, 141));
        calls.add(() -> post.set(10, 0));
        calls.add(() -> post.tell(141, 0, 1));
        calls.add(() -> post.tell(1, 0, 61));
        calls.add(() -> post.tell(1, 1, 60));
        calls.add(() -> post.correct(150, 0, 0));
        calls.add(() -> post.correct(0, 0, 41));
        calls.add(() -> post.forget(0));
        calls.add(() -> post.forget(151));
        calls.add(() -> post.complain(301));
        calls.add(() -> post.complain(5));
        calls.add(() -> post.withdraw(20));
        calls.add(() -> post.append(127));
        calls.add(post::load);
        calls.add(() -> post.minute(150, 0));
        calls.add(() -> post.minute(0, 8));
        calls.add(() -> post.exceedance(99, 0));
        calls.add(() -> post.exceedance(0, 6));
        calls.add(() -> post.complaint(20, 0));
        calls.add(() -> post.complaint(0, 2));
        calls.add(() -> post.levelCount(141));
        calls.add(() -> post.percentLevel(0));
        calls.add(() -> post.count(12));
        calls.add(() -> post.setting(10));
        calls.add(() -> post.ifSet(10, 0, 0));
        calls.add(() -> post.ifSet(0, 0, 10));
        calls.add(() -> post.leastLimit(201));
        calls.add(() -> post.aboveIn(141));
        return calls;
    }

    private void anyArguments() {
        int[] any = {Integer.MIN_VALUE, -61, -1, 0, 1, 9, 60, 100, 199, 200, Integer.MAX_VALUE - 1, Integer.MAX_VALUE};
        for (int a : any) {
            named("append", () -> post("5").append(a), "IllegalArgument");
            named("forget", () -> post("").forget(a), "IllegalArgument");
            named("complain", () -> new NoisePost().complain(a), "IllegalArgument");
            named("withdraw", () -> post("").withdraw(a), "IndexOutOfBounds");
            named("levelCount", () -> post("").levelCount(a), "IllegalArgument");
            named("percentLevel", () -> post("").percentLevel(a), "IllegalArgument");
            named("count", () -> post("").count(a), "IllegalArgument");
            named("setting", () -> post("").setting(a), "IndexOutOfBounds");
            named("leastLimit", () -> post("").leastLimit(a), "IllegalArgument");
            named("aboveIn", () -> post("").aboveIn(a), "IllegalArgument");
            for (int b : any) {
                named("set", () -> post("").set(a, b), "IndexOutOfBounds", "IllegalArgument");
                named("minute", () -> post("").minute(a, b), "IndexOutOfBounds", "IllegalArgument");
                named("exceedance", () -> post("").exceedance(a, b), "IndexOutOfBounds", "IllegalArgument");
                named("complaint", () -> post("").complaint(a, b), "IndexOutOfBounds", "IllegalArgument");
                for (int c : any) {
                    named("tell", () -> post("").tell(a, b, c), "IllegalArgument", "IllegalState");
                    named("correct", () -> post("").correct(a, b, c), "IndexOutOfBounds", "IllegalArgument");
                    named("ifSet", () -> post("").ifSet(a, b, c), "IndexOutOfBounds", "IllegalArgument");
                }
            }
        }
    }

    /** The call answers a number or throws one of these exceptions. */
    private void named(String name, Check.Call call, String... exceptions) {
        Object answer = Check.answer(call);
        boolean due = answer instanceof Integer;
        for (String exception : exceptions) {
            due = due || answer.equals("throws " + exception + "Exception");
        }
        check.is(name + " answered " + answer, true, due);
    }
}
