/** Promises 15, 16 and 31: minutes in thought. */
public final class ThoughtTest {
    private static final Due due = new Due();

    public static void main(String[] args) {
        goes();
        chances();
        aboveTheLastMinute();
        over();
        meets();
        due.end();
    }

    private static void goes() {
        WindingSquare x = new WindingSquare();
        x.walker(0);
        x.walker(0);
        x.comes(0, 0, 4);
        x.comes(1, 1, 6);
        x.turn(1, 0);
        x.turn(1, 1);
        int[][] wrong = {{0, 0}, {61, 0}, {-1, 0}, {1, -1}, {1, 4}};
        for (int[] w : wrong) {
            due.is("goes", x.goes(w[0], w[1]), -1);
        }
        due.is("in", x.goes(11, 0), 2);
        due.is("in", x.goes(12, 0), 0);
        due.is("crossed", x.goes(12, 1), 2);
        due.is("caught", x.goes(12, 2), 0);
        due.is("paid", x.goes(12, 3), 10 + 8);
        due.is("nothing stays", x.look(2), 0);
        due.is("nothing stays", x.look(5), 4);
        due.is("nothing stays", x.look(1), 3);
        due.is("nothing stays", x.look(11), 4);
        due.is("no line", x.book(4, 0), -1);
        x.minutes(12);
        due.is("crossed of all, those before too", x.goes(1, 1), 2);
        due.is("paid before too", x.goes(60, 3), 18);
    }

    private static void chances() {
        WindingSquare x = new WindingSquare();
        x.walker(0);
        x.comes(0, 0, 4);
        Due.tell(x, 0, "sees 499; slips 499;");
        Due.tell(x, 1, "snow 4 5;");
        due.is("not caught", x.goes(12, 2), 0);
        due.is("over", x.over(0), 12);
        Due.tell(x, 0, "sees 500; slips 500;");
        due.is("caught", x.goes(12, 2), 1);
        due.is("paid", x.goes(12, 3), 60);
        due.is("slips, over sooner", x.over(0), 11);
        due.is("no draw", x.look(6), 0);
        due.is("slipped in thought alone", x.of(0, 10), 0);
        due.is("turned he is not caught", x.turn(0, 2) && x.turn(0, 2), true);
        due.is("not caught", x.goes(12, 2), 0);
    }

    private static void aboveTheLastMinute() {
        WindingSquare x = new WindingSquare();
        x.walker(0);
        for (int i = 0; i < 166; i++) {
            x.minutes(60);
        }
        x.minutes(39);
        x.comes(0, 3, 4);
        Due.tell(x, 0, "pays 40 when minute > 9999 + 5; pays 30;");
        due.is("minute 10010 in thought", x.goes(20, 3), 40);
        due.is("over", x.over(0), 12);
    }

    private static void over() {
        WindingSquare x = new WindingSquare();
        x.walker(0);
        x.walker(0);
        due.is("not in", x.over(0), -1);
        due.is("none", x.over(2), -1);
        due.is("none", x.over(-1), -1);
        Due.tell(x, 2, "walker 0 wait 11 wait 11 wait 11 wait 11 wait 4; walker 1 wait 11 wait 11 wait 11 wait 11 wait 5;");
        x.comes(0, 0, 4);
        x.comes(1, 0, 5);
        due.is("just 60", x.over(0), 60);
        due.is("61", x.over(1), -1);
        due.is("in at 60", x.goes(60, 0), 1);
        x.minutes(1);
        due.is("60", x.over(1), 60);
        x.lay(4, 5, 1);
        due.is("a stone in the way", x.over(0), -1);
        Due.tell(x, 2, "walker 0 back;");
        due.is("back out", x.over(0), 2);
        due.is("not crossed", x.goes(2, 1), 0);
    }

    private static void meets() {
        WindingSquare x = new WindingSquare();
        for (int i = 0; i < 4; i++) {
            x.walker(9);
        }
        due.is("not in", x.meets(0, 0), -1);
        due.is("none", x.meets(-1, 0), -1);
        due.is("none", x.meets(0, 4), -1);
        x.comes(0, 0, 5);
        due.is("alike", x.meets(0, 0), 0);
        due.is("one not in", x.meets(0, 1), -1);
        due.is("one not in", x.meets(1, 0), -1);
        x.comes(1, 2, 5);
        due.is("past one another", x.meets(0, 1), -1);
        Due.tell(x, 2, "walker 1 wait 1;");
        due.is("behind 6", x.meets(0, 1), 6);
        due.is("behind 6", x.meets(1, 0), 6);
        x.comes(2, 1, 6);
        due.is("nobody is in the way", x.meets(0, 1), 6);
        Due.tell(x, 1, "snow 5 1 to 5 10;");
        due.is("no slips", x.meets(0, 1), 6);
        x.lay(5, 3, 1);
        due.is("a stone", x.meets(0, 1), -1);
        Due.tell(x, 2, "walker 0 ahead 3 right ahead 1 left; walker 1 right ahead 1 left wait 2;");
        due.is("stones keep him back, he turns then: one behind the other", x.meets(0, 1), -1);
        x.lay(5, 3, 0);
        Due.tell(x, 2, "walker 0 left ahead 5 wait 11 wait 11 wait 11 wait 11 wait 11;");
        x.comes(3, 2, 0);
        due.is("he comes down to him", x.meets(0, 3), 11);
        x.minutes(5);
        due.is("from where they are", x.meets(0, 3), 6);
        due.is("nothing stays", x.look(2), 5);
        due.is("over before: never", x.meets(2, 3), -1);
        WindingSquare y = new WindingSquare();
        y.walker(0);
        y.walker(0);
        Due.tell(y, 2, "walker 0 wait 11 wait 11 wait 11 wait 11 wait 11 wait 11;"
            + "walker 1 wait 11 wait 11 wait 11 wait 11 wait 11;");
        y.comes(0, 0, 5);
        y.comes(1, 1, 0);
        due.is("behind 60", y.meets(0, 1), 60);
        Due.tell(y, 2, "walker 0 wait 11 wait 11 wait 11 wait 11 wait 11 wait 11;"
            + "walker 1 wait 11 wait 11 wait 11 wait 11 wait 11 wait 1;");
        due.is("behind 61", y.meets(0, 1), -1);
    }
}
