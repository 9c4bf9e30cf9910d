/** A program goes all the way. */
public final class FirstTest {
    public static void main(String[] args) {
        Check check = new Check("FirstTest");
        Gearbox box = Tape.with("fun m(a,b){while b{var t=a%b;a=b;b=t;}return a;}");
        check.same("run", box.run(0, 0, 12, 18, 0, 0), 0);
        check.same("result", box.result(), 6);
        check.end();
    }
}
