import java.io.*;
import java.nio.charset.StandardCharsets;
public final class Driver {
  static String cellText(TripleStore x,int n){ StringBuilder b=new StringBuilder(); for(int i=0;i<n;i++) b.append((char)x.written(i)); if(x.written(n)!=-1) b.append("!!"); return b.toString(); }
  public static void main(String[] a) throws IOException {
    BufferedReader r=new BufferedReader(new InputStreamReader(System.in,StandardCharsets.ISO_8859_1));
    PrintStream o=new PrintStream(new BufferedOutputStream(new FileOutputStream(FileDescriptor.out),1<<16),false,"ISO-8859-1");
    TripleStore x=new TripleStore();
    String l;
    while((l=r.readLine())!=null){
      if(l.equals("NEW")){x=new TripleStore();o.println("NEW");continue;}
      byte[] t=new byte[l.length()/2]; for(int i=0;i<t.length;i++) t[i]=(byte)Integer.parseInt(l.substring(2*i,2*i+2),16);
      for(int i=0;i<t.length;i+=8){ int n=Math.min(8,t.length-i); long v=0; for(int k=0;k<n;k++) v=v<<8|(t[i+k]&255); x.type(v,n);}    
      int ans=x.run();
      o.println(ans);o.println(x.place());o.println(x.made());o.println(x.rows());o.println(x.columns());
      StringBuilder b=new StringBuilder();
      for(int c=0;c<x.columns();c++){ if(c>0)b.append('|'); b.append(cellText(x,x.column(c))); }
      o.println(b);
      for(int i=0;i<x.rows();i++){ b=new StringBuilder(); for(int c=0;c<x.columns();c++){ if(c>0)b.append(' '); int n=x.cell(i,c); b.append(n==0?"-":cellText(x,n)); } o.println(b); }
      b=new StringBuilder("plan "); for(int k=0;x.plan(k)!=-1;k++){ if(k>0)b.append(' '); b.append(x.plan(k)); } o.println(b);
      o.println(x.triples());o.println(x.said());o.println(x.terms());o.println(x.rules());
      b=new StringBuilder("terms "); for(int k=1;k<=x.terms();k++){ if(k>1)b.append(' '); b.append(cellText(x,x.term(k))); } o.println(b);
      b=new StringBuilder("holds "); for(int k=0;k<x.triples();k++){ if(k>0)b.append(' '); b.append(x.find(0,k,0)).append(',').append(x.find(0,k,1)).append(',').append(x.find(0,k,2)).append(',').append(x.find(0,k,3)); } o.println(b);
      o.println("--");
    }
    o.flush();
  }
}
