/** The example that README.md shows. */
final class Example {
    public static void main(String[] args) {
        NoisePost post = new NoisePost();
        post.set(0, 72);                            // setting 0 is the limit
        post.tell(95, 2, 14);                       // 14 minutes at level 95, wind 2
        int complaint = post.complain(11);          // somebody complains of minute 11
        System.out.println("exceedances: " + post.count(5));
        System.out.println("the first one begins with minute " + post.exceedance(0, 0));
        System.out.println("the complaint is matched to exceedance " + post.complaint(complaint, 1));
        System.out.println("minutes above: " + post.count(4) + ", with a quicker slow arm: " + post.ifSet(9, 2, 4));
        System.out.println("least limit without an exceedance: " + post.leastLimit(0));
        for (char c : "20@16*8;100".toCharArray()) {
            post.append(c);                         // 8 minutes at level 20, wind 16, then one at level 100
        }
        System.out.println("no error up to " + post.firstError());
        System.out.println("minutes: " + post.load());
        System.out.println("vetoed: " + post.count(2));
        System.out.println("share above: " + post.share());
        System.out.println("states that can be restored: " + post.undo());
        try {
            post.minute(14, 0);
        } catch (IndexOutOfBoundsException e) {
            System.out.println("minute 14 is gone again");
        }
    }
}
